def wp_G_forget (c_count : Int32) (c_cost : Int32) (post : (Int32 × Int32) → Prop) : Prop :=
  post ((0 : Int32), (0 : Int32))
abbrev cw_G_forget (a_this a_outlines a_costs a_rest a_restByTwo a_points a_xs a_ys a_angles a_turns : Nat) (c_count : Int32) (c_cost : Int32) : va_W := [(a_this, .inr (3, [.ref a_outlines, .ref a_costs, .ref a_rest, .ref a_restByTwo, .ref a_points, .ref a_xs, .ref a_ys, .ref a_angles, .ref a_turns, .int c_count, .int c_cost]))]
abbrev qq_G_forget (dC : Nat → ClassId) (dI : Nat → Nat → Nat) (cI cB cJ cZ : ClassId) (a_this a_outlines a_costs a_rest a_restByTwo a_points a_xs a_ys a_angles a_turns : Nat) (A : Nat → Prop) (post : (Int32 × Int32) → Prop) : Array Value → State → Outcome → State → Prop := va_Qv post (fun u t => va_P (dC, dI) vwCl (cw_G_forget a_this a_outlines a_costs a_rest a_restByTwo a_points a_xs a_ys a_angles a_turns u.1 u.2) t.heap ∧ va_K (dC, dI) vwCl [(cI, .int), (cB, .byte), (cJ, .long), (cZ, .boolean)] t ∧ va_D A (cw_G_forget a_this a_outlines a_costs a_rest a_restByTwo a_points a_xs a_ys a_angles a_turns u.1 u.2)) A
set_option maxHeartbeats 4000000 in
set_option maxRecDepth 100000 in
theorem c_G_forget (l : Launch) (dC : Nat → ClassId) (dI : Nat → Nat → Nat) (cI cB cJ cZ : ClassId) (a_this a_outlines a_costs a_rest a_restByTwo a_points a_xs a_ys a_angles a_turns : Nat) (sz : Nat) (c_count : Int32) (c_cost : Int32) (post : (Int32 × Int32) → Prop) (h : wp_G_forget c_count c_cost post) : Met l y_G_forget w_G_forget ({ frames := 0, cells := 0, slots := 0, locals := 0 }) (va_Pc [.ref a_this] (fun U => U.heap.size = sz ∧ va_P (dC, dI) vwCl (cw_G_forget a_this a_outlines a_costs a_rest a_restByTwo a_points a_xs a_ys a_angles a_turns c_count c_cost) U.heap ∧ va_K (dC, dI) vwCl [(cI, .int), (cB, .byte), (cJ, .long), (cZ, .boolean)] U ∧ va_D (fun _ => True) (cw_G_forget a_this a_outlines a_costs a_rest a_restByTwo a_points a_xs a_ys a_angles a_turns c_count c_cost))) (qq_G_forget dC dI cI cB cJ cZ a_this a_outlines a_costs a_rest a_restByTwo a_points a_xs a_ys a_angles a_turns (va_A (cw_G_forget a_this a_outlines a_costs a_rest a_restByTwo a_points a_xs a_ys a_angles a_turns c_count c_cost) sz) post) 0 0 (va_A (cw_G_forget a_this a_outlines a_costs a_rest a_restByTwo a_points a_xs a_ys a_angles a_turns c_count c_cost) sz) := by
  refine Met.ofW (cc := b_G_forget) (maxL := 1) (ret := none) (by decide +kernel) rfl ?_
  intro p e s m args below meth c s₁ B hml hv
  obtain ⟨rfl, hsz, hP, hK, hD0⟩ := hv
  have hx := B.exec
  have hb := B.bytes
  have hr := B.returns
  have hts : ∀ w ∈ allW, w.before _ s = true := fun w hw => atoms_spec (ws := w_G_forget) B.pre w (List.mem_cons_of_mem _ hw)
  have hown : s.vm.findClass R_G = some m.cls := findClass_of_methodNamed B.named
  have hlocks := B.notSynchronized
  subst hsz
  have hD := hD0.self (sz := s.heap.size)
  generalize hAe : va_A (cw_G_forget a_this a_outlines a_costs a_rest a_restByTwo a_points a_xs a_ys a_angles a_turns c_count c_cost) s.heap.size = A at hD ⊢
  have hA : ∀ q : Nat, s.heap.size ≤ q → A q := fun q h => by rw [← hAe]; exact Or.inr h
  have hS : va_S A s.heap s.heap [] := va_S.rf
  clear hD0
  generalize hQf : MQ below (qq_G_forget dC dI cI cB cJ cZ a_this a_outlines a_costs a_rest a_restByTwo a_points a_xs a_ys a_angles a_turns A post) ([.ref a_this] : List Value).toArray s 0 0 A = Qf
  have hl := lv_entry ([.ref a_this]) (n := 1) (Nat.le_of_ble_eq_true rfl)
  rw [lg_entry_eq]
  generalize (lg_sl ([.ref a_this]) ++ List.replicate (1 - (lg_sl ([.ref a_this])).length) Slot.unset).toArray = ls at hl ⊢
  have hl : lv_has ls 1 [(0, .ref a_this)] := hl
  unfold wp_G_forget at h
  refine lv_aload_n hx hb d_G_forget_0 rfl (lv_at hl 0 rfl) ?_
  refine lv_iconst (v := 0) hx hb d_G_forget_1 (by decide) ?_
  refine va_put (D := (dC, dI)) (ci := 3) (v := .int (0 : Int32)) (ty := .int) (C := R_G) (T := F_G) (N := 11) hx hb hts i_G_in t_G t_G_ok n_G_ne hown hK hP hD hS 0 rfl rfl 9 (by decide) (hts _ q_125) (fun _ h9 => h9) rfl (by decide +kernel) (by rfl) (by rfl) (Nat.le_of_ble_eq_true rfl) d_G_forget_2 (fun H locs hP hD hS => ?_)
  have hP : va_P (dC, dI) vwCl (cw_G_forget a_this a_outlines a_costs a_rest a_restByTwo a_points a_xs a_ys a_angles a_turns (0 : Int32) c_cost) H := hP
  have hD : va_D A (cw_G_forget a_this a_outlines a_costs a_rest a_restByTwo a_points a_xs a_ys a_angles a_turns (0 : Int32) c_cost) := hD
  refine lv_aload_n hx hb d_G_forget_5 rfl (lv_at hl 0 rfl) ?_
  refine lv_iconst (v := 0) hx hb d_G_forget_6 (by decide) ?_
  refine va_put (D := (dC, dI)) (ci := 3) (v := .int (0 : Int32)) (ty := .int) (C := R_G) (T := F_G) (N := 11) hx hb hts i_G_in t_G t_G_ok n_G_ne hown hK hP hD hS 0 rfl rfl 10 (by decide) (hts _ q_128) (fun _ h9 => h9) rfl (by decide +kernel) (by rfl) (by rfl) (Nat.le_of_ble_eq_true rfl) d_G_forget_7 (fun H locs hP hD hS => ?_)
  have hP : va_P (dC, dI) vwCl (cw_G_forget a_this a_outlines a_costs a_rest a_restByTwo a_points a_xs a_ys a_angles a_turns (0 : Int32) (0 : Int32)) H := hP
  have hD : va_D A (cw_G_forget a_this a_outlines a_costs a_rest a_restByTwo a_points a_xs a_ys a_angles a_turns (0 : Int32) (0 : Int32)) := hD
  subst hQf
  exact W.vret hx hb hr (fun t ht hW => ⟨⟨((0 : Int32), (0 : Int32)), rfl, h, by rw [ht]; exact hP, va_K.moved hW.alike hK, hD⟩, hS.F ht⟩) hS.2.2 d_G_forget_10
def wp_G_weighPieces_L12 (n_outlines_begins n_outlines_xs n_outlines_ys n_costs : Nat) (f_outlines_begins : Nat → Int32) (f_outlines_xs : Nat → Int32) (f_outlines_ys : Nat → Int32) (x1 : Int32) (x2 : Int32) (x3 : Int32) (x4 : Int32) (back3 : (Int32 × (Nat → Int32)) → Prop) (post : (Nat → Int32) → Prop) (back12 : (Int32 × (Nat → Int32)) → Prop) (x5 : Int32) (f_costs : Nat → Int32) : Prop :=
  ((24 : Int32) < x5 → ∀ x4_53 : Int32, x4_53 = x4 + (1 : Int32) → back3 (x4_53, f_costs)) ∧ (¬ (24 : Int32) < x5 → ∃ Q43 : Int32 → Unit → Prop, wp_U_costOf n_outlines_begins n_outlines_xs n_outlines_ys f_outlines_begins f_outlines_xs f_outlines_ys x1 x4 x5 x3 Q43 ∧ ∀ (r43 : Int32), Q43 r43 () → vp_in (((x4 * (24 : Int32)) + x5) - (1 : Int32)) n_costs ∧ ∀ f46 : Nat → Int32, f46 = upd f_costs (((x4 * (24 : Int32)) + x5) - (1 : Int32)).toNatClampNeg r43 → ∀ x5_47 : Int32, x5_47 = x5 + (1 : Int32) → back12 (x5_47, f46))
def wp_G_weighPieces_L3 (n_outlines_begins n_outlines_xs n_outlines_ys n_costs : Nat) (f_outlines_begins : Nat → Int32) (f_outlines_xs : Nat → Int32) (f_outlines_ys : Nat → Int32) (x1 : Int32) (x2 : Int32) (x3 : Int32) (post : (Nat → Int32) → Prop) (back3 : (Int32 × (Nat → Int32)) → Prop) (x4 : Int32) (f_costs : Nat → Int32) : Prop :=
  (x2 ≤ x4 → post f_costs) ∧ (¬ x2 ≤ x4 → lpW (fun b z => wp_G_weighPieces_L12 n_outlines_begins n_outlines_xs n_outlines_ys n_costs f_outlines_begins f_outlines_xs f_outlines_ys x1 x2 x3 x4 back3 post b z.1 z.2) ((1 : Int32), f_costs))
def wp_G_weighPieces (n_outlines_begins n_outlines_xs n_outlines_ys n_costs : Nat) (f_outlines_begins : Nat → Int32) (f_outlines_xs : Nat → Int32) (f_outlines_ys : Nat → Int32) (f_costs : Nat → Int32) (x1 : Int32) (x2 : Int32) (x3 : Int32) (post : (Nat → Int32) → Prop) : Prop :=
  lpW (fun b z => wp_G_weighPieces_L3 n_outlines_begins n_outlines_xs n_outlines_ys n_costs f_outlines_begins f_outlines_xs f_outlines_ys x1 x2 x3 post b z.1 z.2) ((0 : Int32), f_costs)
abbrev cw_G_weighPieces (cB cI : ClassId) (a_this a_outlines a_outlines_begins a_outlines_xs a_outlines_ys a_costs a_rest a_restByTwo a_points a_xs a_ys a_angles a_turns a_outlines_picture a_outlines_layers a_outlines_areas a_outlines_walked : Nat) (n_outlines_begins n_outlines_xs n_outlines_ys n_costs : Nat) (c_count : Int32) (c_cost : Int32) (c_outlines_count : Int32) (c_outlines_traced : Int32) (f_outlines_begins : Nat → Int32) (f_outlines_xs : Nat → Int32) (f_outlines_ys : Nat → Int32) (f_costs : Nat → Int32) : va_W := [(a_this, .inr (3, [.ref a_outlines, .ref a_costs, .ref a_rest, .ref a_restByTwo, .ref a_points, .ref a_xs, .ref a_ys, .ref a_angles, .ref a_turns, .int c_count, .int c_cost])), (a_outlines, .inr (2, [.ref a_outlines_picture, .ref a_outlines_xs, .ref a_outlines_ys, .ref a_outlines_begins, .ref a_outlines_layers, .ref a_outlines_areas, .ref a_outlines_walked, .int c_outlines_count, .int c_outlines_traced])), (a_outlines_begins, .inl (cI, n_outlines_begins, .inl f_outlines_begins)), (a_outlines_xs, .inl (cB, n_outlines_xs, .inl f_outlines_xs)), (a_outlines_ys, .inl (cB, n_outlines_ys, .inl f_outlines_ys)), (a_costs, .inl (cI, n_costs, .inl f_costs))]
abbrev qq_G_weighPieces (dC : Nat → ClassId) (dI : Nat → Nat → Nat) (cI cB cJ cZ : ClassId) (a_this a_outlines a_outlines_begins a_outlines_xs a_outlines_ys a_costs a_rest a_restByTwo a_points a_xs a_ys a_angles a_turns a_outlines_picture a_outlines_layers a_outlines_areas a_outlines_walked : Nat) (n_outlines_begins n_outlines_xs n_outlines_ys n_costs : Nat) (c_count : Int32) (c_cost : Int32) (c_outlines_count : Int32) (c_outlines_traced : Int32) (f_outlines_begins : Nat → Int32) (f_outlines_xs : Nat → Int32) (f_outlines_ys : Nat → Int32) (A : Nat → Prop) (post : (Nat → Int32) → Prop) : Array Value → State → Outcome → State → Prop := va_Qv post (fun u t => va_P (dC, dI) vwCl (cw_G_weighPieces cB cI a_this a_outlines a_outlines_begins a_outlines_xs a_outlines_ys a_costs a_rest a_restByTwo a_points a_xs a_ys a_angles a_turns a_outlines_picture a_outlines_layers a_outlines_areas a_outlines_walked n_outlines_begins n_outlines_xs n_outlines_ys n_costs c_count c_cost c_outlines_count c_outlines_traced f_outlines_begins f_outlines_xs f_outlines_ys u) t.heap ∧ va_K (dC, dI) vwCl [(cI, .int), (cB, .byte), (cJ, .long), (cZ, .boolean)] t ∧ va_D A (cw_G_weighPieces cB cI a_this a_outlines a_outlines_begins a_outlines_xs a_outlines_ys a_costs a_rest a_restByTwo a_points a_xs a_ys a_angles a_turns a_outlines_picture a_outlines_layers a_outlines_areas a_outlines_walked n_outlines_begins n_outlines_xs n_outlines_ys n_costs c_count c_cost c_outlines_count c_outlines_traced f_outlines_begins f_outlines_xs f_outlines_ys u)) A
set_option maxHeartbeats 4000000 in
set_option maxRecDepth 100000 in
theorem c_G_weighPieces (l : Launch) (dC : Nat → ClassId) (dI : Nat → Nat → Nat) (cI cB cJ cZ : ClassId) (a_this a_outlines a_outlines_begins a_outlines_xs a_outlines_ys a_costs a_rest a_restByTwo a_points a_xs a_ys a_angles a_turns a_outlines_picture a_outlines_layers a_outlines_areas a_outlines_walked : Nat) (sz : Nat) (n_outlines_begins n_outlines_xs n_outlines_ys n_costs : Nat) (c_count : Int32) (c_cost : Int32) (c_outlines_count : Int32) (c_outlines_traced : Int32) (f_outlines_begins : Nat → Int32) (f_outlines_xs : Nat → Int32) (f_outlines_ys : Nat → Int32) (f_costs : Nat → Int32) (x1 : Int32) (x2 : Int32) (x3 : Int32) (post : (Nat → Int32) → Prop) (h : wp_G_weighPieces n_outlines_begins n_outlines_xs n_outlines_ys n_costs f_outlines_begins f_outlines_xs f_outlines_ys f_costs x1 x2 x3 post) : Met l y_G_weighPieces w_G_weighPieces ({ frames := 2, cells := 0, slots := 0, locals := 58 }) (va_Pc [.ref a_this, .int x1, .int x2, .int x3] (fun U => U.heap.size = sz ∧ va_P (dC, dI) vwCl (cw_G_weighPieces cB cI a_this a_outlines a_outlines_begins a_outlines_xs a_outlines_ys a_costs a_rest a_restByTwo a_points a_xs a_ys a_angles a_turns a_outlines_picture a_outlines_layers a_outlines_areas a_outlines_walked n_outlines_begins n_outlines_xs n_outlines_ys n_costs c_count c_cost c_outlines_count c_outlines_traced f_outlines_begins f_outlines_xs f_outlines_ys f_costs) U.heap ∧ va_K (dC, dI) vwCl [(cI, .int), (cB, .byte), (cJ, .long), (cZ, .boolean)] U ∧ va_D (fun _ => True) (cw_G_weighPieces cB cI a_this a_outlines a_outlines_begins a_outlines_xs a_outlines_ys a_costs a_rest a_restByTwo a_points a_xs a_ys a_angles a_turns a_outlines_picture a_outlines_layers a_outlines_areas a_outlines_walked n_outlines_begins n_outlines_xs n_outlines_ys n_costs c_count c_cost c_outlines_count c_outlines_traced f_outlines_begins f_outlines_xs f_outlines_ys f_costs))) (qq_G_weighPieces dC dI cI cB cJ cZ a_this a_outlines a_outlines_begins a_outlines_xs a_outlines_ys a_costs a_rest a_restByTwo a_points a_xs a_ys a_angles a_turns a_outlines_picture a_outlines_layers a_outlines_areas a_outlines_walked n_outlines_begins n_outlines_xs n_outlines_ys n_costs c_count c_cost c_outlines_count c_outlines_traced f_outlines_begins f_outlines_xs f_outlines_ys (va_A (cw_G_weighPieces cB cI a_this a_outlines a_outlines_begins a_outlines_xs a_outlines_ys a_costs a_rest a_restByTwo a_points a_xs a_ys a_angles a_turns a_outlines_picture a_outlines_layers a_outlines_areas a_outlines_walked n_outlines_begins n_outlines_xs n_outlines_ys n_costs c_count c_cost c_outlines_count c_outlines_traced f_outlines_begins f_outlines_xs f_outlines_ys f_costs) sz) post) 0 0 (va_A (cw_G_weighPieces cB cI a_this a_outlines a_outlines_begins a_outlines_xs a_outlines_ys a_costs a_rest a_restByTwo a_points a_xs a_ys a_angles a_turns a_outlines_picture a_outlines_layers a_outlines_areas a_outlines_walked n_outlines_begins n_outlines_xs n_outlines_ys n_costs c_count c_cost c_outlines_count c_outlines_traced f_outlines_begins f_outlines_xs f_outlines_ys f_costs) sz) := by
  refine Met.ofW (cc := b_G_weighPieces) (maxL := 6) (ret := none) (by decide +kernel) rfl ?_
  intro p e s m args below meth c s₁ B hml hv
  obtain ⟨rfl, hsz, hP, hK, hD0⟩ := hv
  have hx := B.exec
  have hb := B.bytes
  have hr := B.returns
  have hts : ∀ w ∈ allW, w.before _ s = true := fun w hw => atoms_spec (ws := w_G_weighPieces) B.pre w (List.mem_cons_of_mem _ hw)
  have hown : s.vm.findClass R_G = some m.cls := findClass_of_methodNamed B.named
  have hlocks := B.notSynchronized
  subst hsz
  have hD := hD0.self (sz := s.heap.size)
  generalize hAe : va_A (cw_G_weighPieces cB cI a_this a_outlines a_outlines_begins a_outlines_xs a_outlines_ys a_costs a_rest a_restByTwo a_points a_xs a_ys a_angles a_turns a_outlines_picture a_outlines_layers a_outlines_areas a_outlines_walked n_outlines_begins n_outlines_xs n_outlines_ys n_costs c_count c_cost c_outlines_count c_outlines_traced f_outlines_begins f_outlines_xs f_outlines_ys f_costs) s.heap.size = A at hD ⊢
  have hA : ∀ q : Nat, s.heap.size ≤ q → A q := fun q h => by rw [← hAe]; exact Or.inr h
  have hS : va_S A s.heap s.heap [] := va_S.rf
  clear hD0
  generalize hQf : MQ below (qq_G_weighPieces dC dI cI cB cJ cZ a_this a_outlines a_outlines_begins a_outlines_xs a_outlines_ys a_costs a_rest a_restByTwo a_points a_xs a_ys a_angles a_turns a_outlines_picture a_outlines_layers a_outlines_areas a_outlines_walked n_outlines_begins n_outlines_xs n_outlines_ys n_costs c_count c_cost c_outlines_count c_outlines_traced f_outlines_begins f_outlines_xs f_outlines_ys A post) ([.ref a_this, .int x1, .int x2, .int x3] : List Value).toArray s 0 0 A = Qf
  have hl := lv_entry ([.ref a_this, .int x1, .int x2, .int x3]) (n := 6) (Nat.le_of_ble_eq_true rfl)
  rw [lg_entry_eq]
  generalize (lg_sl ([.ref a_this, .int x1, .int x2, .int x3]) ++ List.replicate (6 - (lg_sl ([.ref a_this, .int x1, .int x2, .int x3])).length) Slot.unset).toArray = ls at hl ⊢
  have hl : lv_has ls 6 [(0, .ref a_this), (1, .int x1), (2, .int x2), (3, .int x3)] := hl
  unfold wp_G_weighPieces at h
  refine lv_iconst (v := 0) hx hb d_G_weighPieces_0 (by decide) ?_
  refine lv_istore (lv' := [(4, .int (0 : Int32)), (0, .ref a_this), (1, .int x1), (2, .int x2), (3, .int x3)]) hx hb d_G_weighPieces_1 hl (by decide) rfl (fun ls hl => ?_)
  refine lpW_ind (Wp := fun z => ∀ (H : Heap) (locs : List Loc) (ls : Array Slot), va_P (dC, dI) vwCl (cw_G_weighPieces cB cI a_this a_outlines a_outlines_begins a_outlines_xs a_outlines_ys a_costs a_rest a_restByTwo a_points a_xs a_ys a_angles a_turns a_outlines_picture a_outlines_layers a_outlines_areas a_outlines_walked n_outlines_begins n_outlines_xs n_outlines_ys n_costs c_count c_cost c_outlines_count c_outlines_traced f_outlines_begins f_outlines_xs f_outlines_ys z.2) H → va_D A (cw_G_weighPieces cB cI a_this a_outlines a_outlines_begins a_outlines_xs a_outlines_ys a_costs a_rest a_restByTwo a_points a_xs a_ys a_angles a_turns a_outlines_picture a_outlines_layers a_outlines_areas a_outlines_walked n_outlines_begins n_outlines_xs n_outlines_ys n_costs c_count c_cost c_outlines_count c_outlines_traced f_outlines_begins f_outlines_xs f_outlines_ys z.2) → va_S A s.heap H locs → lv_has ls 6 [(0, .ref a_this), (1, .int x1), (2, .int x2), (3, .int x3), (4, .int z.1)] → W p l e (headSpec w_G_weighPieces ({ frames := 2, cells := 0, slots := 0, locals := 58 })).room s m ([.ref a_this, .int x1, .int x2, .int x3] : List Value).toArray below meth c H locs 0 0 Qf (F0 m 3 ls [])) h ?_ _ _ _ hP hD hS (lv_sub hl [1, 2, 3, 4, 0] rfl)
  rintro ⟨x4_l3, f_costs_l3⟩ back3 h hb3 H locs ls hP hD hS hl
  have h : wp_G_weighPieces_L3 n_outlines_begins n_outlines_xs n_outlines_ys n_costs f_outlines_begins f_outlines_xs f_outlines_ys x1 x2 x3 post back3 x4_l3 f_costs_l3 := h
  have hP : va_P (dC, dI) vwCl (cw_G_weighPieces cB cI a_this a_outlines a_outlines_begins a_outlines_xs a_outlines_ys a_costs a_rest a_restByTwo a_points a_xs a_ys a_angles a_turns a_outlines_picture a_outlines_layers a_outlines_areas a_outlines_walked n_outlines_begins n_outlines_xs n_outlines_ys n_costs c_count c_cost c_outlines_count c_outlines_traced f_outlines_begins f_outlines_xs f_outlines_ys f_costs_l3) H := hP
  have hD : va_D A (cw_G_weighPieces cB cI a_this a_outlines a_outlines_begins a_outlines_xs a_outlines_ys a_costs a_rest a_restByTwo a_points a_xs a_ys a_angles a_turns a_outlines_picture a_outlines_layers a_outlines_areas a_outlines_walked n_outlines_begins n_outlines_xs n_outlines_ys n_costs c_count c_cost c_outlines_count c_outlines_traced f_outlines_begins f_outlines_xs f_outlines_ys f_costs_l3) := hD
  have hl : lv_has ls 6 [(0, .ref a_this), (1, .int x1), (2, .int x2), (3, .int x3), (4, .int x4_l3)] := hl
  unfold wp_G_weighPieces_L3 at h
  refine lv_iload hx hb d_G_weighPieces_3 (lv_at hl 4 rfl) ?_
  refine lv_iload_n hx hb d_G_weighPieces_5 rfl (lv_at hl 2 rfl) ?_
  refine lv_icmp_ge (tgt := 59) hx hb d_G_weighPieces_6 (by decide) (fun cc_ => ?_) (fun cc_ => ?_)
  · have h := h.1 cc_
    subst hQf
    exact W.vret hx hb hr (fun t ht hW => ⟨⟨f_costs_l3, rfl, h, by rw [ht]; exact hP, va_K.moved hW.alike hK, hD⟩, hS.F ht⟩) hS.2.2 d_G_weighPieces_59
  · have h := h.2 cc_
    refine lv_iconst (v := 1) hx hb d_G_weighPieces_9 (by decide) ?_
    refine lv_istore (lv' := [(5, .int (1 : Int32)), (0, .ref a_this), (1, .int x1), (2, .int x2), (3, .int x3), (4, .int x4_l3)]) hx hb d_G_weighPieces_10 hl (by decide) rfl (fun ls hl => ?_)
    refine lpW_ind (Wp := fun z => ∀ (H : Heap) (locs : List Loc) (ls : Array Slot), va_P (dC, dI) vwCl (cw_G_weighPieces cB cI a_this a_outlines a_outlines_begins a_outlines_xs a_outlines_ys a_costs a_rest a_restByTwo a_points a_xs a_ys a_angles a_turns a_outlines_picture a_outlines_layers a_outlines_areas a_outlines_walked n_outlines_begins n_outlines_xs n_outlines_ys n_costs c_count c_cost c_outlines_count c_outlines_traced f_outlines_begins f_outlines_xs f_outlines_ys z.2) H → va_D A (cw_G_weighPieces cB cI a_this a_outlines a_outlines_begins a_outlines_xs a_outlines_ys a_costs a_rest a_restByTwo a_points a_xs a_ys a_angles a_turns a_outlines_picture a_outlines_layers a_outlines_areas a_outlines_walked n_outlines_begins n_outlines_xs n_outlines_ys n_costs c_count c_cost c_outlines_count c_outlines_traced f_outlines_begins f_outlines_xs f_outlines_ys z.2) → va_S A s.heap H locs → lv_has ls 6 [(0, .ref a_this), (1, .int x1), (2, .int x2), (3, .int x3), (4, .int x4_l3), (5, .int z.1)] → W p l e (headSpec w_G_weighPieces ({ frames := 2, cells := 0, slots := 0, locals := 58 })).room s m ([.ref a_this, .int x1, .int x2, .int x3] : List Value).toArray below meth c H locs 0 0 Qf (F0 m 12 ls [])) h ?_ _ _ _ hP hD hS (lv_sub hl [1, 2, 3, 4, 5, 0] rfl)
    rintro ⟨x5_l12, f_costs_l12⟩ back12 h hb12 H locs ls hP hD hS hl
    have h : wp_G_weighPieces_L12 n_outlines_begins n_outlines_xs n_outlines_ys n_costs f_outlines_begins f_outlines_xs f_outlines_ys x1 x2 x3 x4_l3 back3 post back12 x5_l12 f_costs_l12 := h
    have hP : va_P (dC, dI) vwCl (cw_G_weighPieces cB cI a_this a_outlines a_outlines_begins a_outlines_xs a_outlines_ys a_costs a_rest a_restByTwo a_points a_xs a_ys a_angles a_turns a_outlines_picture a_outlines_layers a_outlines_areas a_outlines_walked n_outlines_begins n_outlines_xs n_outlines_ys n_costs c_count c_cost c_outlines_count c_outlines_traced f_outlines_begins f_outlines_xs f_outlines_ys f_costs_l12) H := hP
    have hD : va_D A (cw_G_weighPieces cB cI a_this a_outlines a_outlines_begins a_outlines_xs a_outlines_ys a_costs a_rest a_restByTwo a_points a_xs a_ys a_angles a_turns a_outlines_picture a_outlines_layers a_outlines_areas a_outlines_walked n_outlines_begins n_outlines_xs n_outlines_ys n_costs c_count c_cost c_outlines_count c_outlines_traced f_outlines_begins f_outlines_xs f_outlines_ys f_costs_l12) := hD
    have hl : lv_has ls 6 [(0, .ref a_this), (1, .int x1), (2, .int x2), (3, .int x3), (4, .int x4_l3), (5, .int x5_l12)] := hl
    unfold wp_G_weighPieces_L12 at h
    refine lv_iload hx hb d_G_weighPieces_12 (lv_at hl 5 rfl) ?_
    refine lv_bipush (v := 24) hx hb d_G_weighPieces_14 (by decide) ?_
    refine lv_icmp_gt (tgt := 53) hx hb d_G_weighPieces_16 (by decide) (fun cc_ => ?_) (fun cc_ => ?_)
    · have h := h.1 cc_
      obtain ⟨x4_53, e_x4_53⟩ : ∃ y : Int32, y = x4_l3 + (1 : Int32) := ⟨_, rfl⟩
      have h := h x4_53 e_x4_53
      refine lv_iinc (v := x4_53) (lv' := [(4, .int x4_53), (0, .ref a_this), (1, .int x1), (2, .int x2), (3, .int x3), (5, .int x5_l12)]) hx hb d_G_weighPieces_53 hl (k := 4) rfl (by rw [e_x4_53]; rfl) (by decide) rfl (fun ls hl => ?_)
      refine lv_goto (tgt := 3) hx hb d_G_weighPieces_56 (by decide) ?_
      exact hb3 _ h _ _ _ hP hD hS (lv_sub hl [1, 2, 3, 4, 0] rfl)
    · have h := h.2 cc_
      refine lv_aload_n hx hb d_G_weighPieces_19 rfl (lv_at hl 0 rfl) ?_
      refine va_get (D := (dC, dI)) (ci := 3) (v := .ref a_costs) (C := R_G) (T := F_G) (N := 11) hx hb hts i_G_in hown hK hP 0 rfl rfl 1 (by decide) (hts _ q_108) (fun _ h9 => h9) rfl d_G_weighPieces_20 ?_
      refine lv_iload hx hb d_G_weighPieces_23 (lv_at hl 4 rfl) ?_
      refine lv_bipush (v := 24) hx hb d_G_weighPieces_25 (by decide) ?_
      refine lv_imul hx hb d_G_weighPieces_27 ?_
      refine lv_iload hx hb d_G_weighPieces_28 (lv_at hl 5 rfl) ?_
      refine lv_iadd hx hb d_G_weighPieces_30 ?_
      refine lv_iconst (v := 1) hx hb d_G_weighPieces_31 (by decide) ?_
      refine lv_isub hx hb d_G_weighPieces_32 ?_
      refine lv_aload_n hx hb d_G_weighPieces_33 rfl (lv_at hl 0 rfl) ?_
      refine va_get (D := (dC, dI)) (ci := 3) (v := .ref a_outlines) (C := R_G) (T := F_G) (N := 11) hx hb hts i_G_in hown hK hP 0 rfl rfl 0 (by decide) (hts _ q_107) (fun _ h9 => h9) rfl d_G_weighPieces_34 ?_
      refine lv_iload_n hx hb d_G_weighPieces_37 rfl (lv_at hl 1 rfl) ?_
      refine lv_iload hx hb d_G_weighPieces_38 (lv_at hl 4 rfl) ?_
      refine lv_iload hx hb d_G_weighPieces_40 (lv_at hl 5 rfl) ?_
      refine lv_iload_n hx hb d_G_weighPieces_42 rfl (lv_at hl 3 rfl) ?_
      obtain ⟨Q43, hq43, h⟩ := h
      have hPc := hP.sub (ws' := (cw_U_costOf cB cI a_outlines a_outlines_begins a_outlines_xs a_outlines_ys a_outlines_picture a_outlines_layers a_outlines_areas a_outlines_walked n_outlines_begins n_outlines_xs n_outlines_ys c_outlines_count c_outlines_traced f_outlines_begins f_outlines_xs f_outlines_ys)) [1, 2, 3, 4] rfl
      have hDc := hD.sub (ws' := (cw_U_costOf cB cI a_outlines a_outlines_begins a_outlines_xs a_outlines_ys a_outlines_picture a_outlines_layers a_outlines_areas a_outlines_walked n_outlines_begins n_outlines_xs n_outlines_ys c_outlines_count c_outlines_traced f_outlines_begins f_outlines_xs f_outlines_ys)) [1, 2, 3, 4] (by decide) rfl
      have hFc := va_free (wc := (cw_U_costOf cB cI a_outlines a_outlines_begins a_outlines_xs a_outlines_ys a_outlines_picture a_outlines_layers a_outlines_areas a_outlines_walked n_outlines_begins n_outlines_xs n_outlines_ys c_outlines_count c_outlines_traced f_outlines_begins f_outlines_xs f_outlines_ys)) hD hS hA [1, 2, 3, 4] rfl
      refine va_calli (va_runV (As := [.int x1, .int x4_l3, .int x5_l12, .int x3]) (rest := [.int (((x4_l3 * (24 : Int32)) + x5_l12) - (1 : Int32)), .ref a_costs]) ⟨hx, hb, hml, hown, hts⟩ (c_U_costOf l dC dI cI cB cJ cZ a_outlines a_outlines_begins a_outlines_xs a_outlines_ys a_outlines_picture a_outlines_layers a_outlines_areas a_outlines_walked H.size n_outlines_begins n_outlines_xs n_outlines_ys c_outlines_count c_outlines_traced f_outlines_begins f_outlines_xs f_outlines_ys x1 x4_l3 x5_l12 x3 Q43 hq43) (cwV 4 hts (goodV q_503 q_478 q_479 q_4 q_480) rfl rfl rfl (by decide +kernel) ⟨Nat.le_of_ble_eq_true rfl, Nat.le_of_ble_eq_true rfl⟩) ⟨fun a U g mk q => by obtain ⟨q0, q1, qP, qK, qD⟩ := q; exact ⟨q0, q1, qP, va_K.moved (u := U) (U := U.calling g mk a) (Vm.Alike.refl U.vm) qK, qD⟩, va_recv hK hPc (ci := 2) (q0 := 0) rfl rfl, fun U hU hW => ⟨rfl, by rw [hU], by rw [hU]; exact hPc, va_K.moved hW.alike hK, hDc.weaken (fun _ _ _ _ => trivial)⟩⟩ rfl rfl hl.1 rfl (lv_room (Nat.le_of_ble_eq_true rfl)) d_G_weighPieces_43 ⟨Nat.le_of_ble_eq_true rfl, Nat.le_of_ble_eq_true rfl⟩) hS (fun q _ h => hFc q h) hFc (fun r43 u43 t H1 locs ht hvm hw hB hz1 hk1 hS => ?_)
      cases u43
      obtain ⟨hP1, -, hD1⟩ := hB
      rw [ht] at hP1
      have h := h r43 hw
      obtain ⟨hP, hD⟩ := va_join (wr := [(a_this, .inr (3, [.ref a_outlines, .ref a_costs, .ref a_rest, .ref a_restByTwo, .ref a_points, .ref a_xs, .ref a_ys, .ref a_angles, .ref a_turns, .int c_count, .int c_cost])), (a_costs, .inl (cI, n_costs, .inl f_costs_l12))]) (w1 := (cw_U_costOf cB cI a_outlines a_outlines_begins a_outlines_xs a_outlines_ys a_outlines_picture a_outlines_layers a_outlines_areas a_outlines_walked n_outlines_begins n_outlines_xs n_outlines_ys c_outlines_count c_outlines_traced f_outlines_begins f_outlines_xs f_outlines_ys)) hP hD [1, 2, 3, 4] [0, 5] rfl rfl (by decide) (by decide) hk1 hFc hP1 hD1
      clear hP1 hD1 hk1 hPc hDc hFc
      generalize H1 = H at hP hS ⊢
      have hP : va_P (dC, dI) vwCl (cw_G_weighPieces cB cI a_this a_outlines a_outlines_begins a_outlines_xs a_outlines_ys a_costs a_rest a_restByTwo a_points a_xs a_ys a_angles a_turns a_outlines_picture a_outlines_layers a_outlines_areas a_outlines_walked n_outlines_begins n_outlines_xs n_outlines_ys n_costs c_count c_cost c_outlines_count c_outlines_traced f_outlines_begins f_outlines_xs f_outlines_ys f_costs_l12) H := hP.sub [0, 2, 3, 4, 5, 1] rfl
      have hD : va_D A (cw_G_weighPieces cB cI a_this a_outlines a_outlines_begins a_outlines_xs a_outlines_ys a_costs a_rest a_restByTwo a_points a_xs a_ys a_angles a_turns a_outlines_picture a_outlines_layers a_outlines_areas a_outlines_walked n_outlines_begins n_outlines_xs n_outlines_ys n_costs c_count c_cost c_outlines_count c_outlines_traced f_outlines_begins f_outlines_xs f_outlines_ys f_costs_l12) := hD.sub [0, 2, 3, 4, 5, 1] (by decide) rfl
      obtain ⟨hin, h⟩ := h
      refine va_iast hx hb hK hP hD hS 5 0 rfl rfl hin d_G_weighPieces_46 (fun H locs hP hD hS => ?_)
      obtain ⟨f46, e_f46⟩ : ∃ y : Nat → Int32, y = upd f_costs_l12 (((x4_l3 * (24 : Int32)) + x5_l12) - (1 : Int32)).toNatClampNeg r43 := ⟨_, rfl⟩
      have h := h f46 e_f46
      have hP : va_P (dC, dI) vwCl (cw_G_weighPieces cB cI a_this a_outlines a_outlines_begins a_outlines_xs a_outlines_ys a_costs a_rest a_restByTwo a_points a_xs a_ys a_angles a_turns a_outlines_picture a_outlines_layers a_outlines_areas a_outlines_walked n_outlines_begins n_outlines_xs n_outlines_ys n_costs c_count c_cost c_outlines_count c_outlines_traced f_outlines_begins f_outlines_xs f_outlines_ys f46) H := by rw [e_f46]; exact hP
      have hD : va_D A (cw_G_weighPieces cB cI a_this a_outlines a_outlines_begins a_outlines_xs a_outlines_ys a_costs a_rest a_restByTwo a_points a_xs a_ys a_angles a_turns a_outlines_picture a_outlines_layers a_outlines_areas a_outlines_walked n_outlines_begins n_outlines_xs n_outlines_ys n_costs c_count c_cost c_outlines_count c_outlines_traced f_outlines_begins f_outlines_xs f_outlines_ys f46) := by rw [e_f46]; exact hD
      obtain ⟨x5_47, e_x5_47⟩ : ∃ y : Int32, y = x5_l12 + (1 : Int32) := ⟨_, rfl⟩
      have h := h x5_47 e_x5_47
      refine lv_iinc (v := x5_47) (lv' := [(5, .int x5_47), (0, .ref a_this), (1, .int x1), (2, .int x2), (3, .int x3), (4, .int x4_l3)]) hx hb d_G_weighPieces_47 hl (k := 5) rfl (by rw [e_x5_47]; rfl) (by decide) rfl (fun ls hl => ?_)
      refine lv_goto (tgt := 12) hx hb d_G_weighPieces_50 (by decide) ?_
      exact hb12 _ h _ _ _ hP hD hS (lv_sub hl [1, 2, 3, 4, 5, 0] rfl)
def wp_G_pieceCost_J11 (n_costs : Nat) (f_costs : Nat → Int32) (post : Int32 → Unit → Prop) : Prop :=
  post (-1 : Int32) ()
def wp_G_pieceCost (n_costs : Nat) (f_costs : Nat → Int32) (x1 : Int32) (x2 : Int32) (post : Int32 → Unit → Prop) : Prop :=
  (x2 < (1 : Int32) → wp_G_pieceCost_J11 n_costs f_costs post) ∧ (¬ x2 < (1 : Int32) → (x2 ≤ (24 : Int32) → vp_in (((x1 * (24 : Int32)) + x2) - (1 : Int32)) n_costs ∧ post (f_costs (((x1 * (24 : Int32)) + x2) - (1 : Int32)).toNatClampNeg) ()) ∧ (¬ x2 ≤ (24 : Int32) → wp_G_pieceCost_J11 n_costs f_costs post))
abbrev cw_G_pieceCost (cI : ClassId) (a_this a_costs a_outlines a_rest a_restByTwo a_points a_xs a_ys a_angles a_turns : Nat) (n_costs : Nat) (c_count : Int32) (c_cost : Int32) (f_costs : Nat → Int32) : va_W := [(a_this, .inr (3, [.ref a_outlines, .ref a_costs, .ref a_rest, .ref a_restByTwo, .ref a_points, .ref a_xs, .ref a_ys, .ref a_angles, .ref a_turns, .int c_count, .int c_cost])), (a_costs, .inl (cI, n_costs, .inl f_costs))]
abbrev qq_G_pieceCost (dC : Nat → ClassId) (dI : Nat → Nat → Nat) (cI cB cJ cZ : ClassId) (a_this a_costs a_outlines a_rest a_restByTwo a_points a_xs a_ys a_angles a_turns : Nat) (n_costs : Nat) (c_count : Int32) (c_cost : Int32) (f_costs : Nat → Int32) (A : Nat → Prop) (post : Int32 → Unit → Prop) : Array Value → State → Outcome → State → Prop := va_Qi post (fun _ t => va_P (dC, dI) vwCl (cw_G_pieceCost cI a_this a_costs a_outlines a_rest a_restByTwo a_points a_xs a_ys a_angles a_turns n_costs c_count c_cost f_costs) t.heap ∧ va_K (dC, dI) vwCl [(cI, .int), (cB, .byte), (cJ, .long), (cZ, .boolean)] t ∧ va_D A (cw_G_pieceCost cI a_this a_costs a_outlines a_rest a_restByTwo a_points a_xs a_ys a_angles a_turns n_costs c_count c_cost f_costs)) A
set_option maxHeartbeats 4000000 in
set_option maxRecDepth 100000 in
theorem c_G_pieceCost (l : Launch) (dC : Nat → ClassId) (dI : Nat → Nat → Nat) (cI cB cJ cZ : ClassId) (a_this a_costs a_outlines a_rest a_restByTwo a_points a_xs a_ys a_angles a_turns : Nat) (sz : Nat) (n_costs : Nat) (c_count : Int32) (c_cost : Int32) (f_costs : Nat → Int32) (x1 : Int32) (x2 : Int32) (post : Int32 → Unit → Prop) (h : wp_G_pieceCost n_costs f_costs x1 x2 post) : Met l y_G_pieceCost w_G_pieceCost ({ frames := 0, cells := 0, slots := 0, locals := 0 }) (va_Pc [.ref a_this, .int x1, .int x2] (fun U => U.heap.size = sz ∧ va_P (dC, dI) vwCl (cw_G_pieceCost cI a_this a_costs a_outlines a_rest a_restByTwo a_points a_xs a_ys a_angles a_turns n_costs c_count c_cost f_costs) U.heap ∧ va_K (dC, dI) vwCl [(cI, .int), (cB, .byte), (cJ, .long), (cZ, .boolean)] U ∧ va_D (fun _ => True) (cw_G_pieceCost cI a_this a_costs a_outlines a_rest a_restByTwo a_points a_xs a_ys a_angles a_turns n_costs c_count c_cost f_costs))) (qq_G_pieceCost dC dI cI cB cJ cZ a_this a_costs a_outlines a_rest a_restByTwo a_points a_xs a_ys a_angles a_turns n_costs c_count c_cost f_costs (va_A (cw_G_pieceCost cI a_this a_costs a_outlines a_rest a_restByTwo a_points a_xs a_ys a_angles a_turns n_costs c_count c_cost f_costs) sz) post) 0 0 (va_A (cw_G_pieceCost cI a_this a_costs a_outlines a_rest a_restByTwo a_points a_xs a_ys a_angles a_turns n_costs c_count c_cost f_costs) sz) := by
  refine Met.ofW (cc := b_G_pieceCost) (maxL := 3) (ret := (some .int)) (by decide +kernel) rfl ?_
  intro p e s m args below meth c s₁ B hml hv
  obtain ⟨rfl, hsz, hP, hK, hD0⟩ := hv
  have hx := B.exec
  have hb := B.bytes
  have hr := B.returns
  have hts : ∀ w ∈ allW, w.before _ s = true := fun w hw => atoms_spec (ws := w_G_pieceCost) B.pre w (List.mem_cons_of_mem _ hw)
  have hown : s.vm.findClass R_G = some m.cls := findClass_of_methodNamed B.named
  have hlocks := B.notSynchronized
  subst hsz
  have hD := hD0.self (sz := s.heap.size)
  generalize hAe : va_A (cw_G_pieceCost cI a_this a_costs a_outlines a_rest a_restByTwo a_points a_xs a_ys a_angles a_turns n_costs c_count c_cost f_costs) s.heap.size = A at hD ⊢
  have hA : ∀ q : Nat, s.heap.size ≤ q → A q := fun q h => by rw [← hAe]; exact Or.inr h
  have hS : va_S A s.heap s.heap [] := va_S.rf
  clear hD0
  generalize hQf : MQ below (qq_G_pieceCost dC dI cI cB cJ cZ a_this a_costs a_outlines a_rest a_restByTwo a_points a_xs a_ys a_angles a_turns n_costs c_count c_cost f_costs A post) ([.ref a_this, .int x1, .int x2] : List Value).toArray s 0 0 A = Qf
  have hl := lv_entry ([.ref a_this, .int x1, .int x2]) (n := 3) (Nat.le_of_ble_eq_true rfl)
  rw [lg_entry_eq]
  generalize (lg_sl ([.ref a_this, .int x1, .int x2]) ++ List.replicate (3 - (lg_sl ([.ref a_this, .int x1, .int x2])).length) Slot.unset).toArray = ls at hl ⊢
  have hl : lv_has ls 3 [(0, .ref a_this), (1, .int x1), (2, .int x2)] := hl
  unfold wp_G_pieceCost at h
  have J11 : ∀ (H : Heap) (locs : List Loc) (ls : Array Slot), wp_G_pieceCost_J11 n_costs f_costs post → va_P (dC, dI) vwCl (cw_G_pieceCost cI a_this a_costs a_outlines a_rest a_restByTwo a_points a_xs a_ys a_angles a_turns n_costs c_count c_cost f_costs) H → va_D A (cw_G_pieceCost cI a_this a_costs a_outlines a_rest a_restByTwo a_points a_xs a_ys a_angles a_turns n_costs c_count c_cost f_costs) → va_S A s.heap H locs → lv_has ls 3 [] → W p l e (headSpec w_G_pieceCost ({ frames := 0, cells := 0, slots := 0, locals := 0 })).room s m ([.ref a_this, .int x1, .int x2] : List Value).toArray below meth c H locs 0 0 Qf (F0 m 11 ls []) := by
    intro H locs ls h hP hD hS hl
    unfold wp_G_pieceCost_J11 at h
    refine lv_iconst (v := -1) hx hb d_G_pieceCost_11 (by decide) ?_
    refine lv_goto (tgt := 28) hx hb d_G_pieceCost_12 (by decide) ?_
    subst hQf
    exact W.iret (v := (-1 : Int32)) hx hb hr (fun t ht hW => ⟨⟨(-1 : Int32), (), rfl, h, by rw [ht]; exact hP, va_K.moved hW.alike hK, hD⟩, hS.F ht⟩) hS.2.2 d_G_pieceCost_28
  refine lv_iload_n hx hb d_G_pieceCost_0 rfl (lv_at hl 2 rfl) ?_
  refine lv_iconst (v := 1) hx hb d_G_pieceCost_1 (by decide) ?_
  refine lv_icmp_lt (tgt := 11) hx hb d_G_pieceCost_2 (by decide) (fun cc_ => ?_) (fun cc_ => ?_)
  · have h := h.1 cc_
    exact J11 _ _ _ h hP hD hS (lv_sub hl [] rfl)
  · have h := h.2 cc_
    refine lv_iload_n hx hb d_G_pieceCost_5 rfl (lv_at hl 2 rfl) ?_
    refine lv_bipush (v := 24) hx hb d_G_pieceCost_6 (by decide) ?_
    refine lv_icmp_le (tgt := 15) hx hb d_G_pieceCost_8 (by decide) (fun cc_ => ?_) (fun cc_ => ?_)
    · have h := h.1 cc_
      refine lv_aload_n hx hb d_G_pieceCost_15 rfl (lv_at hl 0 rfl) ?_
      refine va_get (D := (dC, dI)) (ci := 3) (v := .ref a_costs) (C := R_G) (T := F_G) (N := 11) hx hb hts i_G_in hown hK hP 0 rfl rfl 1 (by decide) (hts _ q_108) (fun _ h9 => h9) rfl d_G_pieceCost_16 ?_
      refine lv_iload_n hx hb d_G_pieceCost_19 rfl (lv_at hl 1 rfl) ?_
      refine lv_bipush (v := 24) hx hb d_G_pieceCost_20 (by decide) ?_
      refine lv_imul hx hb d_G_pieceCost_22 ?_
      refine lv_iload_n hx hb d_G_pieceCost_23 rfl (lv_at hl 2 rfl) ?_
      refine lv_iadd hx hb d_G_pieceCost_24 ?_
      refine lv_iconst (v := 1) hx hb d_G_pieceCost_25 (by decide) ?_
      refine lv_isub hx hb d_G_pieceCost_26 ?_
      obtain ⟨hin, h⟩ := h
      refine va_iald hx hb hK hP 1 0 rfl rfl hin d_G_pieceCost_27 ?_
      subst hQf
      exact W.iret (v := (f_costs (((x1 * (24 : Int32)) + x2) - (1 : Int32)).toNatClampNeg)) hx hb hr (fun t ht hW => ⟨⟨(f_costs (((x1 * (24 : Int32)) + x2) - (1 : Int32)).toNatClampNeg), (), rfl, h, by rw [ht]; exact hP, va_K.moved hW.alike hK, hD⟩, hS.F ht⟩) hS.2.2 d_G_pieceCost_28
    · have h := h.2 cc_
      exact J11 _ _ _ h hP hD hS (lv_sub hl [] rfl)
def wp_G_leastThrough_J62 (n_costs n_p0 : Nat) (f_costs : Nat → Int32) (f_p0 : Nat → Int32) (x2 : Int32) (x4 : Int32) (x5 : Int32) (x6 : Int32) (back21 : (Int32 × Int32) → Prop) (post : Int32 → Unit → Prop) : Prop :=
  ∀ x6_62 : Int32, x6_62 = x6 + (1 : Int32) → back21 (x4, x6_62)
def wp_G_leastThrough_L21 (n_costs n_p0 : Nat) (f_costs : Nat → Int32) (f_p0 : Nat → Int32) (x2 : Int32) (x5 : Int32) (post : Int32 → Unit → Prop) (back21 : (Int32 × Int32) → Prop) (x4 : Int32) (x6 : Int32) : Prop :=
  (x5 ≤ x6 → post x4 ()) ∧ (¬ x5 ≤ x6 → ∃ Q34 : Int32 → Unit → Prop, wp_G_pieceCost n_costs f_costs x2 (x6 - x2) Q34 ∧ ∀ (r34 : Int32), Q34 r34 () → (r34 = (-1 : Int32) → wp_G_leastThrough_J62 n_costs n_p0 f_costs f_p0 x2 x4 x5 x6 back21 post) ∧ (¬ r34 = (-1 : Int32) → vp_in x6 n_p0 ∧ ∀ x4_60 : Int32, x4_60 = (jmin x4 (((262144 : Int32) + r34) + (f_p0 x6.toNatClampNeg))) → wp_G_leastThrough_J62 n_costs n_p0 f_costs f_p0 x2 x4_60 x5 x6 back21 post))
def wp_G_leastThrough (n_costs n_p0 : Nat) (f_costs : Nat → Int32) (f_p0 : Nat → Int32) (x2 : Int32) (x3 : Int32) (post : Int32 → Unit → Prop) : Prop :=
  ∀ x5_14 : Int32, x5_14 = (jmin ((x2 + (24 : Int32)) + (1 : Int32)) x3) → ∀ x6_19 : Int32, x6_19 = (x2 + (1 : Int32)) → lpW (fun b z => wp_G_leastThrough_L21 n_costs n_p0 f_costs f_p0 x2 x5_14 post b z.1 z.2) ((1073741824 : Int32), x6_19)
abbrev cw_G_leastThrough (cI : ClassId) (a_this a_costs a_p0 a_outlines a_rest a_restByTwo a_points a_xs a_ys a_angles a_turns : Nat) (n_costs n_p0 : Nat) (c_count : Int32) (c_cost : Int32) (f_costs : Nat → Int32) (f_p0 : Nat → Int32) : va_W := [(a_this, .inr (3, [.ref a_outlines, .ref a_costs, .ref a_rest, .ref a_restByTwo, .ref a_points, .ref a_xs, .ref a_ys, .ref a_angles, .ref a_turns, .int c_count, .int c_cost])), (a_costs, .inl (cI, n_costs, .inl f_costs)), (a_p0, .inl (cI, n_p0, .inl f_p0))]
abbrev qq_G_leastThrough (dC : Nat → ClassId) (dI : Nat → Nat → Nat) (cI cB cJ cZ : ClassId) (a_this a_costs a_p0 a_outlines a_rest a_restByTwo a_points a_xs a_ys a_angles a_turns : Nat) (n_costs n_p0 : Nat) (c_count : Int32) (c_cost : Int32) (f_costs : Nat → Int32) (f_p0 : Nat → Int32) (A : Nat → Prop) (post : Int32 → Unit → Prop) : Array Value → State → Outcome → State → Prop := va_Qi post (fun _ t => va_P (dC, dI) vwCl (cw_G_leastThrough cI a_this a_costs a_p0 a_outlines a_rest a_restByTwo a_points a_xs a_ys a_angles a_turns n_costs n_p0 c_count c_cost f_costs f_p0) t.heap ∧ va_K (dC, dI) vwCl [(cI, .int), (cB, .byte), (cJ, .long), (cZ, .boolean)] t ∧ va_D A (cw_G_leastThrough cI a_this a_costs a_p0 a_outlines a_rest a_restByTwo a_points a_xs a_ys a_angles a_turns n_costs n_p0 c_count c_cost f_costs f_p0)) A
set_option maxHeartbeats 4000000 in
set_option maxRecDepth 100000 in
theorem c_G_leastThrough (l : Launch) (dC : Nat → ClassId) (dI : Nat → Nat → Nat) (cI cB cJ cZ : ClassId) (a_this a_costs a_p0 a_outlines a_rest a_restByTwo a_points a_xs a_ys a_angles a_turns : Nat) (sz : Nat) (n_costs n_p0 : Nat) (c_count : Int32) (c_cost : Int32) (f_costs : Nat → Int32) (f_p0 : Nat → Int32) (x2 : Int32) (x3 : Int32) (post : Int32 → Unit → Prop) (h : wp_G_leastThrough n_costs n_p0 f_costs f_p0 x2 x3 post) : Met l y_G_leastThrough w_G_leastThrough ({ frames := 1, cells := 0, slots := 0, locals := 22 }) (va_Pc [.ref a_this, .ref a_p0, .int x2, .int x3] (fun U => U.heap.size = sz ∧ va_P (dC, dI) vwCl (cw_G_leastThrough cI a_this a_costs a_p0 a_outlines a_rest a_restByTwo a_points a_xs a_ys a_angles a_turns n_costs n_p0 c_count c_cost f_costs f_p0) U.heap ∧ va_K (dC, dI) vwCl [(cI, .int), (cB, .byte), (cJ, .long), (cZ, .boolean)] U ∧ va_D (fun _ => True) (cw_G_leastThrough cI a_this a_costs a_p0 a_outlines a_rest a_restByTwo a_points a_xs a_ys a_angles a_turns n_costs n_p0 c_count c_cost f_costs f_p0))) (qq_G_leastThrough dC dI cI cB cJ cZ a_this a_costs a_p0 a_outlines a_rest a_restByTwo a_points a_xs a_ys a_angles a_turns n_costs n_p0 c_count c_cost f_costs f_p0 (va_A (cw_G_leastThrough cI a_this a_costs a_p0 a_outlines a_rest a_restByTwo a_points a_xs a_ys a_angles a_turns n_costs n_p0 c_count c_cost f_costs f_p0) sz) post) 0 0 (va_A (cw_G_leastThrough cI a_this a_costs a_p0 a_outlines a_rest a_restByTwo a_points a_xs a_ys a_angles a_turns n_costs n_p0 c_count c_cost f_costs f_p0) sz) := by
  refine Met.ofW (cc := b_G_leastThrough) (maxL := 8) (ret := (some .int)) (by decide +kernel) rfl ?_
  intro p e s m args below meth c s₁ B hml hv
  obtain ⟨rfl, hsz, hP, hK, hD0⟩ := hv
  have hx := B.exec
  have hb := B.bytes
  have hr := B.returns
  have hts : ∀ w ∈ allW, w.before _ s = true := fun w hw => atoms_spec (ws := w_G_leastThrough) B.pre w (List.mem_cons_of_mem _ hw)
  have hown : s.vm.findClass R_G = some m.cls := findClass_of_methodNamed B.named
  have hlocks := B.notSynchronized
  subst hsz
  have hD := hD0.self (sz := s.heap.size)
  generalize hAe : va_A (cw_G_leastThrough cI a_this a_costs a_p0 a_outlines a_rest a_restByTwo a_points a_xs a_ys a_angles a_turns n_costs n_p0 c_count c_cost f_costs f_p0) s.heap.size = A at hD ⊢
  have hA : ∀ q : Nat, s.heap.size ≤ q → A q := fun q h => by rw [← hAe]; exact Or.inr h
  have hS : va_S A s.heap s.heap [] := va_S.rf
  clear hD0
  generalize hQf : MQ below (qq_G_leastThrough dC dI cI cB cJ cZ a_this a_costs a_p0 a_outlines a_rest a_restByTwo a_points a_xs a_ys a_angles a_turns n_costs n_p0 c_count c_cost f_costs f_p0 A post) ([.ref a_this, .ref a_p0, .int x2, .int x3] : List Value).toArray s 0 0 A = Qf
  have hl := lv_entry ([.ref a_this, .ref a_p0, .int x2, .int x3]) (n := 8) (Nat.le_of_ble_eq_true rfl)
  rw [lg_entry_eq]
  generalize (lg_sl ([.ref a_this, .ref a_p0, .int x2, .int x3]) ++ List.replicate (8 - (lg_sl ([.ref a_this, .ref a_p0, .int x2, .int x3])).length) Slot.unset).toArray = ls at hl ⊢
  have hl : lv_has ls 8 [(0, .ref a_this), (1, .ref a_p0), (2, .int x2), (3, .int x3)] := hl
  unfold wp_G_leastThrough at h
  refine lv_ldc (v := 1073741824) hx hb hown (hts _ q_504) d_G_leastThrough_0 ?_
  refine lv_istore (lv' := [(4, .int (1073741824 : Int32)), (0, .ref a_this), (1, .ref a_p0), (2, .int x2), (3, .int x3)]) hx hb d_G_leastThrough_2 hl (by decide) rfl (fun ls hl => ?_)
  refine lv_iload_n hx hb d_G_leastThrough_4 rfl (lv_at hl 3 rfl) ?_
  refine lv_bipush (v := 24) hx hb d_G_leastThrough_5 (by decide) ?_
  refine lv_iadd hx hb d_G_leastThrough_7 ?_
  refine lv_iconst (v := 1) hx hb d_G_leastThrough_8 (by decide) ?_
  refine lv_iadd hx hb d_G_leastThrough_9 ?_
  refine lv_iload_n hx hb d_G_leastThrough_10 rfl (lv_at hl 4 rfl) ?_
  refine va_mmin hx hb (hml.trans hl.1.symm) hown (hts _ q_498) (hts _ q_31) (hts _ q_3) (hts _ q_32) (Nat.le_of_ble_eq_true rfl) (Nat.le_of_ble_eq_true rfl) (Nat.zero_le _) (Nat.zero_le _) d_G_leastThrough_11 ?_
  refine W.eq (g2 := F0 m 14 ls [.int (jmin ((x2 + (24 : Int32)) + (1 : Int32)) x3)]) rfl ?_
  refine lv_topi (fun x5_14 e_x5_14 => ?_)
  have h := h x5_14 e_x5_14
  refine lv_istore (lv' := [(5, .int x5_14), (4, .int (1073741824 : Int32)), (0, .ref a_this), (1, .ref a_p0), (2, .int x2), (3, .int x3)]) hx hb d_G_leastThrough_14 hl (by decide) rfl (fun ls hl => ?_)
  refine lv_iload_n hx hb d_G_leastThrough_16 rfl (lv_at hl 4 rfl) ?_
  refine lv_iconst (v := 1) hx hb d_G_leastThrough_17 (by decide) ?_
  refine lv_iadd hx hb d_G_leastThrough_18 ?_
  refine lv_topi (fun x6_19 e_x6_19 => ?_)
  have h := h x6_19 e_x6_19
  refine lv_istore (lv' := [(6, .int x6_19), (5, .int x5_14), (4, .int (1073741824 : Int32)), (0, .ref a_this), (1, .ref a_p0), (2, .int x2), (3, .int x3)]) hx hb d_G_leastThrough_19 hl (by decide) rfl (fun ls hl => ?_)
  refine lpW_ind (Wp := fun z => ∀ (H : Heap) (locs : List Loc) (ls : Array Slot), va_P (dC, dI) vwCl (cw_G_leastThrough cI a_this a_costs a_p0 a_outlines a_rest a_restByTwo a_points a_xs a_ys a_angles a_turns n_costs n_p0 c_count c_cost f_costs f_p0) H → va_D A (cw_G_leastThrough cI a_this a_costs a_p0 a_outlines a_rest a_restByTwo a_points a_xs a_ys a_angles a_turns n_costs n_p0 c_count c_cost f_costs f_p0) → va_S A s.heap H locs → lv_has ls 8 [(0, .ref a_this), (1, .ref a_p0), (2, .int x2), (4, .int z.1), (5, .int x5_14), (6, .int z.2)] → W p l e (headSpec w_G_leastThrough ({ frames := 1, cells := 0, slots := 0, locals := 22 })).room s m ([.ref a_this, .ref a_p0, .int x2, .int x3] : List Value).toArray below meth c H locs 0 0 Qf (F0 m 21 ls [])) h ?_ _ _ _ hP hD hS (lv_sub hl [3, 4, 5, 2, 1, 0] rfl)
  rintro ⟨x4_l21, x6_l21⟩ back21 h hb21 H locs ls hP hD hS hl
  have h : wp_G_leastThrough_L21 n_costs n_p0 f_costs f_p0 x2 x5_14 post back21 x4_l21 x6_l21 := h
  have hP : va_P (dC, dI) vwCl (cw_G_leastThrough cI a_this a_costs a_p0 a_outlines a_rest a_restByTwo a_points a_xs a_ys a_angles a_turns n_costs n_p0 c_count c_cost f_costs f_p0) H := hP
  have hD : va_D A (cw_G_leastThrough cI a_this a_costs a_p0 a_outlines a_rest a_restByTwo a_points a_xs a_ys a_angles a_turns n_costs n_p0 c_count c_cost f_costs f_p0) := hD
  have hl : lv_has ls 8 [(0, .ref a_this), (1, .ref a_p0), (2, .int x2), (4, .int x4_l21), (5, .int x5_14), (6, .int x6_l21)] := hl
  unfold wp_G_leastThrough_L21 at h
  have J62 : ∀ (x4_j62 : Int32) (x6_j62 : Int32) (H : Heap) (locs : List Loc) (ls : Array Slot), wp_G_leastThrough_J62 n_costs n_p0 f_costs f_p0 x2 x4_j62 x5_14 x6_j62 back21 post → va_P (dC, dI) vwCl (cw_G_leastThrough cI a_this a_costs a_p0 a_outlines a_rest a_restByTwo a_points a_xs a_ys a_angles a_turns n_costs n_p0 c_count c_cost f_costs f_p0) H → va_D A (cw_G_leastThrough cI a_this a_costs a_p0 a_outlines a_rest a_restByTwo a_points a_xs a_ys a_angles a_turns n_costs n_p0 c_count c_cost f_costs f_p0) → va_S A s.heap H locs → lv_has ls 8 [(0, .ref a_this), (1, .ref a_p0), (2, .int x2), (4, .int x4_j62), (5, .int x5_14), (6, .int x6_j62)] → W p l e (headSpec w_G_leastThrough ({ frames := 1, cells := 0, slots := 0, locals := 22 })).room s m ([.ref a_this, .ref a_p0, .int x2, .int x3] : List Value).toArray below meth c H locs 0 0 Qf (F0 m 62 ls []) := by
    intro x4_j62 x6_j62 H locs ls h hP hD hS hl
    unfold wp_G_leastThrough_J62 at h
    obtain ⟨x6_62, e_x6_62⟩ : ∃ y : Int32, y = x6_j62 + (1 : Int32) := ⟨_, rfl⟩
    have h := h x6_62 e_x6_62
    refine lv_iinc (v := x6_62) (lv' := [(6, .int x6_62), (0, .ref a_this), (1, .ref a_p0), (2, .int x2), (4, .int x4_j62), (5, .int x5_14)]) hx hb d_G_leastThrough_62 hl (k := 5) rfl (by rw [e_x6_62]; rfl) (by decide) rfl (fun ls hl => ?_)
    refine lv_goto (tgt := 21) hx hb d_G_leastThrough_65 (by decide) ?_
    exact hb21 _ h _ _ _ hP hD hS (lv_sub hl [1, 2, 3, 4, 5, 0] rfl)
  refine lv_iload hx hb d_G_leastThrough_21 (lv_at hl 5 rfl) ?_
  refine lv_iload hx hb d_G_leastThrough_23 (lv_at hl 4 rfl) ?_
  refine lv_icmp_ge (tgt := 68) hx hb d_G_leastThrough_25 (by decide) (fun cc_ => ?_) (fun cc_ => ?_)
  · have h := h.1 cc_
    refine lv_iload hx hb d_G_leastThrough_68 (lv_at hl 3 rfl) ?_
    subst hQf
    exact W.iret (v := x4_l21) hx hb hr (fun t ht hW => ⟨⟨x4_l21, (), rfl, h, by rw [ht]; exact hP, va_K.moved hW.alike hK, hD⟩, hS.F ht⟩) hS.2.2 d_G_leastThrough_70
  · have h := h.2 cc_
    refine lv_aload_n hx hb d_G_leastThrough_28 rfl (lv_at hl 0 rfl) ?_
    refine lv_iload_n hx hb d_G_leastThrough_29 rfl (lv_at hl 2 rfl) ?_
    refine lv_iload hx hb d_G_leastThrough_30 (lv_at hl 5 rfl) ?_
    refine lv_iload_n hx hb d_G_leastThrough_32 rfl (lv_at hl 2 rfl) ?_
    refine lv_isub hx hb d_G_leastThrough_33 ?_
    obtain ⟨Q34, hq34, h⟩ := h
    have hPc := hP.sub (ws' := (cw_G_pieceCost cI a_this a_costs a_outlines a_rest a_restByTwo a_points a_xs a_ys a_angles a_turns n_costs c_count c_cost f_costs)) [0, 1] rfl
    have hDc := hD.sub (ws' := (cw_G_pieceCost cI a_this a_costs a_outlines a_rest a_restByTwo a_points a_xs a_ys a_angles a_turns n_costs c_count c_cost f_costs)) [0, 1] (by decide) rfl
    have hFc := va_free (wc := (cw_G_pieceCost cI a_this a_costs a_outlines a_rest a_restByTwo a_points a_xs a_ys a_angles a_turns n_costs c_count c_cost f_costs)) hD hS hA [0, 1] rfl
    refine va_calli (va_runV (As := [.int x2, .int (x6_l21 - x2)]) (rest := []) ⟨hx, hb, hml, hown, hts⟩ (c_G_pieceCost l dC dI cI cB cJ cZ a_this a_costs a_outlines a_rest a_restByTwo a_points a_xs a_ys a_angles a_turns H.size n_costs c_count c_cost f_costs x2 (x6_l21 - x2) Q34 hq34) (cwV 2 hts (goodV q_509 q_511 q_p14 q_5 q_512) rfl rfl rfl (by decide +kernel) ⟨Nat.le_of_ble_eq_true rfl, Nat.le_of_ble_eq_true rfl⟩) ⟨fun a U g mk q => by obtain ⟨q0, q1, qP, qK, qD⟩ := q; exact ⟨q0, q1, qP, va_K.moved (u := U) (U := U.calling g mk a) (Vm.Alike.refl U.vm) qK, qD⟩, va_recv hK hPc (ci := 3) (q0 := 0) rfl rfl, fun U hU hW => ⟨rfl, by rw [hU], by rw [hU]; exact hPc, va_K.moved hW.alike hK, hDc.weaken (fun _ _ _ _ => trivial)⟩⟩ rfl rfl hl.1 rfl (lv_room (Nat.le_of_ble_eq_true rfl)) d_G_leastThrough_34 ⟨Nat.le_of_ble_eq_true rfl, Nat.le_of_ble_eq_true rfl⟩) hS (fun q _ h => hFc q h) hFc (fun r34 u34 t H1 locs ht hvm hw hB hz1 hk1 hS => ?_)
    cases u34
    obtain ⟨hP1, -, hD1⟩ := hB
    rw [ht] at hP1
    have h := h r34 hw
    obtain ⟨hP, hD⟩ := va_join (wr := [(a_p0, .inl (cI, n_p0, .inl f_p0))]) (w1 := (cw_G_pieceCost cI a_this a_costs a_outlines a_rest a_restByTwo a_points a_xs a_ys a_angles a_turns n_costs c_count c_cost f_costs)) hP hD [0, 1] [2] rfl rfl (by decide) (by decide) hk1 hFc hP1 hD1
    clear hP1 hD1 hk1 hPc hDc hFc
    generalize H1 = H at hP hS ⊢
    have hP : va_P (dC, dI) vwCl (cw_G_leastThrough cI a_this a_costs a_p0 a_outlines a_rest a_restByTwo a_points a_xs a_ys a_angles a_turns n_costs n_p0 c_count c_cost f_costs f_p0) H := hP.sub [1, 2, 0] rfl
    have hD : va_D A (cw_G_leastThrough cI a_this a_costs a_p0 a_outlines a_rest a_restByTwo a_points a_xs a_ys a_angles a_turns n_costs n_p0 c_count c_cost f_costs f_p0) := hD.sub [1, 2, 0] (by decide) rfl
    refine lv_istore (lv' := [(7, .int r34), (0, .ref a_this), (1, .ref a_p0), (2, .int x2), (4, .int x4_l21), (5, .int x5_14), (6, .int x6_l21)]) hx hb d_G_leastThrough_37 hl (by decide) rfl (fun ls hl => ?_)
    refine lv_iload hx hb d_G_leastThrough_39 (lv_at hl 0 rfl) ?_
    refine lv_iconst (v := -1) hx hb d_G_leastThrough_41 (by decide) ?_
    refine lv_icmp_eq (tgt := 62) hx hb d_G_leastThrough_42 (by decide) (fun cc_ => ?_) (fun cc_ => ?_)
    · have h := h.1 cc_
      exact J62 x4_l21 x6_l21 _ _ _ h hP hD hS (lv_sub hl [1, 2, 3, 4, 5, 6] rfl)
    · have h := h.2 cc_
      refine lv_iload hx hb d_G_leastThrough_45 (lv_at hl 4 rfl) ?_
      refine lv_ldc (v := 262144) hx hb hown (hts _ q_517) d_G_leastThrough_47 ?_
      refine lv_iload hx hb d_G_leastThrough_49 (lv_at hl 0 rfl) ?_
      refine lv_iadd hx hb d_G_leastThrough_51 ?_
      refine lv_aload_n hx hb d_G_leastThrough_52 rfl (lv_at hl 2 rfl) ?_
      refine lv_iload hx hb d_G_leastThrough_53 (lv_at hl 6 rfl) ?_
      obtain ⟨hin, h⟩ := h
      refine va_iald hx hb hK hP 2 0 rfl rfl hin d_G_leastThrough_55 ?_
      refine lv_iadd hx hb d_G_leastThrough_56 ?_
      refine va_mmin hx hb (hml.trans hl.1.symm) hown (hts _ q_498) (hts _ q_31) (hts _ q_3) (hts _ q_32) (Nat.le_of_ble_eq_true rfl) (Nat.le_of_ble_eq_true rfl) (Nat.zero_le _) (Nat.zero_le _) d_G_leastThrough_57 ?_
      refine W.eq (g2 := F0 m 60 ls [.int (jmin x4_l21 (((262144 : Int32) + r34) + (f_p0 x6_l21.toNatClampNeg)))]) rfl ?_
      refine lv_topi (fun x4_60 e_x4_60 => ?_)
      have h := h x4_60 e_x4_60
      refine lv_istore (lv' := [(4, .int x4_60), (7, .int r34), (0, .ref a_this), (1, .ref a_p0), (2, .int x2), (5, .int x5_14), (6, .int x6_l21)]) hx hb d_G_leastThrough_60 hl (by decide) rfl (fun ls hl => ?_)
      exact J62 x4_60 x6_l21 _ _ _ h hP hD hS (lv_sub hl [2, 3, 4, 0, 5, 6] rfl)
def wp_G_weighFrom_L82 (n_costs n_restByTwo n_rest : Nat) (f_costs : Nat → Int32) (f_rest : Nat → Int32) (x1 : Int32) (x2 : Int32) (x3 : Int32) (post : Int32 → ((Nat → Int32) × (Nat → Int32)) → Prop) (back82 : (Int32 × (Nat → Int32)) → Prop) (x4 : Int32) (f_restByTwo : Nat → Int32) : Prop :=
  (x3 ≤ x4 → ∃ Q119 : Int32 → Unit → Prop, wp_G_leastThrough n_costs n_restByTwo f_costs f_restByTwo x1 x2 Q119 ∧ ∀ (r119 : Int32), Q119 r119 () → post r119 (f_restByTwo, f_rest)) ∧ (¬ x3 ≤ x4 → ∃ Q102 : Int32 → Unit → Prop, wp_G_leastThrough n_costs n_rest f_costs f_rest x4 x2 Q102 ∧ ∀ (r102 : Int32), Q102 r102 () → vp_in x4 n_restByTwo ∧ ∀ f105 : Nat → Int32, f105 = upd f_restByTwo x4.toNatClampNeg r102 → ∀ x4_106 : Int32, x4_106 = x4 + (1 : Int32) → back82 (x4_106, f105))
def wp_G_weighFrom_J59 (n_costs n_restByTwo n_rest : Nat) (f_costs : Nat → Int32) (f_restByTwo : Nat → Int32) (f_rest : Nat → Int32) (x1 : Int32) (x2 : Int32) (x3 : Int32) (y0 : Int32) (y1 : Int32) (back4 : (Int32 × (Nat → Int32)) → Prop) (post : Int32 → ((Nat → Int32) × (Nat → Int32)) → Prop) : Prop :=
  vp_in y1 n_rest ∧ ∀ f59 : Nat → Int32, f59 = upd f_rest y1.toNatClampNeg y0 → ∀ x3_60 : Int32, x3_60 = x3 + (-1 : Int32) → back4 (x3_60, f59)
def wp_G_weighFrom_L4 (n_costs n_restByTwo n_rest : Nat) (f_costs : Nat → Int32) (f_restByTwo : Nat → Int32) (x1 : Int32) (x2 : Int32) (post : Int32 → ((Nat → Int32) × (Nat → Int32)) → Prop) (back4 : (Int32 × (Nat → Int32)) → Prop) (x3 : Int32) (f_rest : Nat → Int32) : Prop :=
  (x3 ≤ x1 → ∀ x3_76 : Int32, x3_76 = (jmin ((x1 + (24 : Int32)) + (1 : Int32)) x2) → ∀ x4_80 : Int32, x4_80 = (x1 + (1 : Int32)) → lpW (fun b z => wp_G_weighFrom_L82 n_costs n_restByTwo n_rest f_costs f_rest x1 x2 x3_76 post b z.1 z.2) (x4_80, f_restByTwo)) ∧ (¬ x3 ≤ x1 → ∃ Q16 : Int32 → Unit → Prop, wp_G_pieceCost n_costs f_costs x3 ((x2 + x1) - x3) Q16 ∧ ∀ (r16 : Int32), Q16 r16 () → ∃ Q28 : Int32 → Unit → Prop, wp_G_leastThrough n_costs n_rest f_costs f_rest x3 x2 Q28 ∧ ∀ (r28 : Int32), Q28 r28 () → (¬ r16 = (-1 : Int32) → wp_G_weighFrom_J59 n_costs n_restByTwo n_rest f_costs f_restByTwo f_rest x1 x2 x3 (jmin r28 ((262144 : Int32) + r16)) x3 back4 post) ∧ (r16 = (-1 : Int32) → wp_G_weighFrom_J59 n_costs n_restByTwo n_rest f_costs f_restByTwo f_rest x1 x2 x3 r28 x3 back4 post))
def wp_G_weighFrom (n_costs n_restByTwo n_rest : Nat) (f_costs : Nat → Int32) (f_restByTwo : Nat → Int32) (f_rest : Nat → Int32) (x1 : Int32) (x2 : Int32) (post : Int32 → ((Nat → Int32) × (Nat → Int32)) → Prop) : Prop :=
  ∀ x3_3 : Int32, x3_3 = (x2 - (1 : Int32)) → lpW (fun b z => wp_G_weighFrom_L4 n_costs n_restByTwo n_rest f_costs f_restByTwo x1 x2 post b z.1 z.2) (x3_3, f_rest)
abbrev cw_G_weighFrom (cI : ClassId) (a_this a_costs a_restByTwo a_rest a_outlines a_points a_xs a_ys a_angles a_turns : Nat) (n_costs n_restByTwo n_rest : Nat) (c_count : Int32) (c_cost : Int32) (f_costs : Nat → Int32) (f_restByTwo : Nat → Int32) (f_rest : Nat → Int32) : va_W := [(a_this, .inr (3, [.ref a_outlines, .ref a_costs, .ref a_rest, .ref a_restByTwo, .ref a_points, .ref a_xs, .ref a_ys, .ref a_angles, .ref a_turns, .int c_count, .int c_cost])), (a_costs, .inl (cI, n_costs, .inl f_costs)), (a_restByTwo, .inl (cI, n_restByTwo, .inl f_restByTwo)), (a_rest, .inl (cI, n_rest, .inl f_rest))]
abbrev qq_G_weighFrom (dC : Nat → ClassId) (dI : Nat → Nat → Nat) (cI cB cJ cZ : ClassId) (a_this a_costs a_restByTwo a_rest a_outlines a_points a_xs a_ys a_angles a_turns : Nat) (n_costs n_restByTwo n_rest : Nat) (c_count : Int32) (c_cost : Int32) (f_costs : Nat → Int32) (A : Nat → Prop) (post : Int32 → ((Nat → Int32) × (Nat → Int32)) → Prop) : Array Value → State → Outcome → State → Prop := va_Qi post (fun u t => va_P (dC, dI) vwCl (cw_G_weighFrom cI a_this a_costs a_restByTwo a_rest a_outlines a_points a_xs a_ys a_angles a_turns n_costs n_restByTwo n_rest c_count c_cost f_costs u.1 u.2) t.heap ∧ va_K (dC, dI) vwCl [(cI, .int), (cB, .byte), (cJ, .long), (cZ, .boolean)] t ∧ va_D A (cw_G_weighFrom cI a_this a_costs a_restByTwo a_rest a_outlines a_points a_xs a_ys a_angles a_turns n_costs n_restByTwo n_rest c_count c_cost f_costs u.1 u.2)) A
set_option maxHeartbeats 4000000 in
set_option maxRecDepth 100000 in
theorem c_G_weighFrom (l : Launch) (dC : Nat → ClassId) (dI : Nat → Nat → Nat) (cI cB cJ cZ : ClassId) (a_this a_costs a_restByTwo a_rest a_outlines a_points a_xs a_ys a_angles a_turns : Nat) (sz : Nat) (n_costs n_restByTwo n_rest : Nat) (c_count : Int32) (c_cost : Int32) (f_costs : Nat → Int32) (f_restByTwo : Nat → Int32) (f_rest : Nat → Int32) (x1 : Int32) (x2 : Int32) (post : Int32 → ((Nat → Int32) × (Nat → Int32)) → Prop) (h : wp_G_weighFrom n_costs n_restByTwo n_rest f_costs f_restByTwo f_rest x1 x2 post) : Met l y_G_weighFrom w_G_weighFrom ({ frames := 2, cells := 0, slots := 0, locals := 49 }) (va_Pc [.ref a_this, .int x1, .int x2] (fun U => U.heap.size = sz ∧ va_P (dC, dI) vwCl (cw_G_weighFrom cI a_this a_costs a_restByTwo a_rest a_outlines a_points a_xs a_ys a_angles a_turns n_costs n_restByTwo n_rest c_count c_cost f_costs f_restByTwo f_rest) U.heap ∧ va_K (dC, dI) vwCl [(cI, .int), (cB, .byte), (cJ, .long), (cZ, .boolean)] U ∧ va_D (fun _ => True) (cw_G_weighFrom cI a_this a_costs a_restByTwo a_rest a_outlines a_points a_xs a_ys a_angles a_turns n_costs n_restByTwo n_rest c_count c_cost f_costs f_restByTwo f_rest))) (qq_G_weighFrom dC dI cI cB cJ cZ a_this a_costs a_restByTwo a_rest a_outlines a_points a_xs a_ys a_angles a_turns n_costs n_restByTwo n_rest c_count c_cost f_costs (va_A (cw_G_weighFrom cI a_this a_costs a_restByTwo a_rest a_outlines a_points a_xs a_ys a_angles a_turns n_costs n_restByTwo n_rest c_count c_cost f_costs f_restByTwo f_rest) sz) post) 0 0 (va_A (cw_G_weighFrom cI a_this a_costs a_restByTwo a_rest a_outlines a_points a_xs a_ys a_angles a_turns n_costs n_restByTwo n_rest c_count c_cost f_costs f_restByTwo f_rest) sz) := by
  refine Met.ofW (cc := b_G_weighFrom) (maxL := 6) (ret := (some .int)) (by decide +kernel) rfl ?_
  intro p e s m args below meth c s₁ B hml hv
  obtain ⟨rfl, hsz, hP, hK, hD0⟩ := hv
  have hx := B.exec
  have hb := B.bytes
  have hr := B.returns
  have hts : ∀ w ∈ allW, w.before _ s = true := fun w hw => atoms_spec (ws := w_G_weighFrom) B.pre w (List.mem_cons_of_mem _ hw)
  have hown : s.vm.findClass R_G = some m.cls := findClass_of_methodNamed B.named
  have hlocks := B.notSynchronized
  subst hsz
  have hD := hD0.self (sz := s.heap.size)
  generalize hAe : va_A (cw_G_weighFrom cI a_this a_costs a_restByTwo a_rest a_outlines a_points a_xs a_ys a_angles a_turns n_costs n_restByTwo n_rest c_count c_cost f_costs f_restByTwo f_rest) s.heap.size = A at hD ⊢
  have hA : ∀ q : Nat, s.heap.size ≤ q → A q := fun q h => by rw [← hAe]; exact Or.inr h
  have hS : va_S A s.heap s.heap [] := va_S.rf
  clear hD0
  generalize hQf : MQ below (qq_G_weighFrom dC dI cI cB cJ cZ a_this a_costs a_restByTwo a_rest a_outlines a_points a_xs a_ys a_angles a_turns n_costs n_restByTwo n_rest c_count c_cost f_costs A post) ([.ref a_this, .int x1, .int x2] : List Value).toArray s 0 0 A = Qf
  have hl := lv_entry ([.ref a_this, .int x1, .int x2]) (n := 6) (Nat.le_of_ble_eq_true rfl)
  rw [lg_entry_eq]
  generalize (lg_sl ([.ref a_this, .int x1, .int x2]) ++ List.replicate (6 - (lg_sl ([.ref a_this, .int x1, .int x2])).length) Slot.unset).toArray = ls at hl ⊢
  have hl : lv_has ls 6 [(0, .ref a_this), (1, .int x1), (2, .int x2)] := hl
  unfold wp_G_weighFrom at h
  refine lv_iload_n hx hb d_G_weighFrom_0 rfl (lv_at hl 2 rfl) ?_
  refine lv_iconst (v := 1) hx hb d_G_weighFrom_1 (by decide) ?_
  refine lv_isub hx hb d_G_weighFrom_2 ?_
  refine lv_topi (fun x3_3 e_x3_3 => ?_)
  have h := h x3_3 e_x3_3
  refine lv_istore_n (lv' := [(3, .int x3_3), (0, .ref a_this), (1, .int x1), (2, .int x2)]) hx hb d_G_weighFrom_3 rfl hl (by decide) rfl (fun ls hl => ?_)
  refine lpW_ind (Wp := fun z => ∀ (H : Heap) (locs : List Loc) (ls : Array Slot), va_P (dC, dI) vwCl (cw_G_weighFrom cI a_this a_costs a_restByTwo a_rest a_outlines a_points a_xs a_ys a_angles a_turns n_costs n_restByTwo n_rest c_count c_cost f_costs f_restByTwo z.2) H → va_D A (cw_G_weighFrom cI a_this a_costs a_restByTwo a_rest a_outlines a_points a_xs a_ys a_angles a_turns n_costs n_restByTwo n_rest c_count c_cost f_costs f_restByTwo z.2) → va_S A s.heap H locs → lv_has ls 6 [(0, .ref a_this), (1, .int x1), (2, .int x2), (3, .int z.1)] → W p l e (headSpec w_G_weighFrom ({ frames := 2, cells := 0, slots := 0, locals := 49 })).room s m ([.ref a_this, .int x1, .int x2] : List Value).toArray below meth c H locs 0 0 Qf (F0 m 4 ls [])) h ?_ _ _ _ hP hD hS (lv_sub hl [1, 2, 3, 0] rfl)
  rintro ⟨x3_l4, f_rest_l4⟩ back4 h hb4 H locs ls hP hD hS hl
  have h : wp_G_weighFrom_L4 n_costs n_restByTwo n_rest f_costs f_restByTwo x1 x2 post back4 x3_l4 f_rest_l4 := h
  have hP : va_P (dC, dI) vwCl (cw_G_weighFrom cI a_this a_costs a_restByTwo a_rest a_outlines a_points a_xs a_ys a_angles a_turns n_costs n_restByTwo n_rest c_count c_cost f_costs f_restByTwo f_rest_l4) H := hP
  have hD : va_D A (cw_G_weighFrom cI a_this a_costs a_restByTwo a_rest a_outlines a_points a_xs a_ys a_angles a_turns n_costs n_restByTwo n_rest c_count c_cost f_costs f_restByTwo f_rest_l4) := hD
  have hl : lv_has ls 6 [(0, .ref a_this), (1, .int x1), (2, .int x2), (3, .int x3_l4)] := hl
  unfold wp_G_weighFrom_L4 at h
  have J59 : ∀ (x3_j59 : Int32) (y0_j59 : Int32) (y1_j59 : Int32) (f_rest_j59 : Nat → Int32) (H : Heap) (locs : List Loc) (ls : Array Slot), wp_G_weighFrom_J59 n_costs n_restByTwo n_rest f_costs f_restByTwo f_rest_j59 x1 x2 x3_j59 y0_j59 y1_j59 back4 post → va_P (dC, dI) vwCl (cw_G_weighFrom cI a_this a_costs a_restByTwo a_rest a_outlines a_points a_xs a_ys a_angles a_turns n_costs n_restByTwo n_rest c_count c_cost f_costs f_restByTwo f_rest_j59) H → va_D A (cw_G_weighFrom cI a_this a_costs a_restByTwo a_rest a_outlines a_points a_xs a_ys a_angles a_turns n_costs n_restByTwo n_rest c_count c_cost f_costs f_restByTwo f_rest_j59) → va_S A s.heap H locs → lv_has ls 6 [(0, .ref a_this), (1, .int x1), (2, .int x2), (3, .int x3_j59)] → W p l e (headSpec w_G_weighFrom ({ frames := 2, cells := 0, slots := 0, locals := 49 })).room s m ([.ref a_this, .int x1, .int x2] : List Value).toArray below meth c H locs 0 0 Qf (F0 m 59 ls [.int y0_j59, .int y1_j59, .ref a_rest]) := by
    intro x3_j59 y0_j59 y1_j59 f_rest_j59 H locs ls h hP hD hS hl
    unfold wp_G_weighFrom_J59 at h
    obtain ⟨hin, h⟩ := h
    refine va_iast hx hb hK hP hD hS 3 0 rfl rfl hin d_G_weighFrom_59 (fun H locs hP hD hS => ?_)
    obtain ⟨f59, e_f59⟩ : ∃ y : Nat → Int32, y = upd f_rest_j59 y1_j59.toNatClampNeg y0_j59 := ⟨_, rfl⟩
    have h := h f59 e_f59
    have hP : va_P (dC, dI) vwCl (cw_G_weighFrom cI a_this a_costs a_restByTwo a_rest a_outlines a_points a_xs a_ys a_angles a_turns n_costs n_restByTwo n_rest c_count c_cost f_costs f_restByTwo f59) H := by rw [e_f59]; exact hP
    have hD : va_D A (cw_G_weighFrom cI a_this a_costs a_restByTwo a_rest a_outlines a_points a_xs a_ys a_angles a_turns n_costs n_restByTwo n_rest c_count c_cost f_costs f_restByTwo f59) := by rw [e_f59]; exact hD
    obtain ⟨x3_60, e_x3_60⟩ : ∃ y : Int32, y = x3_j59 + (-1 : Int32) := ⟨_, rfl⟩
    have h := h x3_60 e_x3_60
    refine lv_iinc (v := x3_60) (lv' := [(3, .int x3_60), (0, .ref a_this), (1, .int x1), (2, .int x2)]) hx hb d_G_weighFrom_60 hl (k := 3) rfl (by rw [e_x3_60]; rfl) (by decide) rfl (fun ls hl => ?_)
    refine lv_goto (tgt := 4) hx hb d_G_weighFrom_63 (by decide) ?_
    exact hb4 _ h _ _ _ hP hD hS (lv_sub hl [1, 2, 3, 0] rfl)
  refine lv_iload_n hx hb d_G_weighFrom_4 rfl (lv_at hl 3 rfl) ?_
  refine lv_iload_n hx hb d_G_weighFrom_5 rfl (lv_at hl 1 rfl) ?_
  refine lv_icmp_le (tgt := 66) hx hb d_G_weighFrom_6 (by decide) (fun cc_ => ?_) (fun cc_ => ?_)
  · have h := h.1 cc_
    refine lv_iload_n hx hb d_G_weighFrom_66 rfl (lv_at hl 1 rfl) ?_
    refine lv_bipush (v := 24) hx hb d_G_weighFrom_67 (by decide) ?_
    refine lv_iadd hx hb d_G_weighFrom_69 ?_
    refine lv_iconst (v := 1) hx hb d_G_weighFrom_70 (by decide) ?_
    refine lv_iadd hx hb d_G_weighFrom_71 ?_
    refine lv_iload_n hx hb d_G_weighFrom_72 rfl (lv_at hl 2 rfl) ?_
    refine va_mmin hx hb (hml.trans hl.1.symm) hown (hts _ q_498) (hts _ q_31) (hts _ q_3) (hts _ q_32) (Nat.le_of_ble_eq_true rfl) (Nat.le_of_ble_eq_true rfl) (Nat.zero_le _) (Nat.zero_le _) d_G_weighFrom_73 ?_
    refine W.eq (g2 := F0 m 76 ls [.int (jmin ((x1 + (24 : Int32)) + (1 : Int32)) x2)]) rfl ?_
    refine lv_topi (fun x3_76 e_x3_76 => ?_)
    have h := h x3_76 e_x3_76
    refine lv_istore_n (lv' := [(3, .int x3_76), (0, .ref a_this), (1, .int x1), (2, .int x2)]) hx hb d_G_weighFrom_76 rfl hl (by decide) rfl (fun ls hl => ?_)
    refine lv_iload_n hx hb d_G_weighFrom_77 rfl (lv_at hl 2 rfl) ?_
    refine lv_iconst (v := 1) hx hb d_G_weighFrom_78 (by decide) ?_
    refine lv_iadd hx hb d_G_weighFrom_79 ?_
    refine lv_topi (fun x4_80 e_x4_80 => ?_)
    have h := h x4_80 e_x4_80
    refine lv_istore (lv' := [(4, .int x4_80), (3, .int x3_76), (0, .ref a_this), (1, .int x1), (2, .int x2)]) hx hb d_G_weighFrom_80 hl (by decide) rfl (fun ls hl => ?_)
    refine lpW_ind (Wp := fun z => ∀ (H : Heap) (locs : List Loc) (ls : Array Slot), va_P (dC, dI) vwCl (cw_G_weighFrom cI a_this a_costs a_restByTwo a_rest a_outlines a_points a_xs a_ys a_angles a_turns n_costs n_restByTwo n_rest c_count c_cost f_costs z.2 f_rest_l4) H → va_D A (cw_G_weighFrom cI a_this a_costs a_restByTwo a_rest a_outlines a_points a_xs a_ys a_angles a_turns n_costs n_restByTwo n_rest c_count c_cost f_costs z.2 f_rest_l4) → va_S A s.heap H locs → lv_has ls 6 [(0, .ref a_this), (1, .int x1), (2, .int x2), (3, .int x3_76), (4, .int z.1)] → W p l e (headSpec w_G_weighFrom ({ frames := 2, cells := 0, slots := 0, locals := 49 })).room s m ([.ref a_this, .int x1, .int x2] : List Value).toArray below meth c H locs 0 0 Qf (F0 m 82 ls [])) h ?_ _ _ _ hP hD hS (lv_sub hl [2, 3, 4, 1, 0] rfl)
    rintro ⟨x4_l82, f_restByTwo_l82⟩ back82 h hb82 H locs ls hP hD hS hl
    have h : wp_G_weighFrom_L82 n_costs n_restByTwo n_rest f_costs f_rest_l4 x1 x2 x3_76 post back82 x4_l82 f_restByTwo_l82 := h
    have hP : va_P (dC, dI) vwCl (cw_G_weighFrom cI a_this a_costs a_restByTwo a_rest a_outlines a_points a_xs a_ys a_angles a_turns n_costs n_restByTwo n_rest c_count c_cost f_costs f_restByTwo_l82 f_rest_l4) H := hP
    have hD : va_D A (cw_G_weighFrom cI a_this a_costs a_restByTwo a_rest a_outlines a_points a_xs a_ys a_angles a_turns n_costs n_restByTwo n_rest c_count c_cost f_costs f_restByTwo_l82 f_rest_l4) := hD
    have hl : lv_has ls 6 [(0, .ref a_this), (1, .int x1), (2, .int x2), (3, .int x3_76), (4, .int x4_l82)] := hl
    unfold wp_G_weighFrom_L82 at h
    refine lv_iload hx hb d_G_weighFrom_82 (lv_at hl 4 rfl) ?_
    refine lv_iload_n hx hb d_G_weighFrom_84 rfl (lv_at hl 3 rfl) ?_
    refine lv_icmp_ge (tgt := 112) hx hb d_G_weighFrom_85 (by decide) (fun cc_ => ?_) (fun cc_ => ?_)
    · have h := h.1 cc_
      refine lv_aload_n hx hb d_G_weighFrom_112 rfl (lv_at hl 0 rfl) ?_
      refine lv_aload_n hx hb d_G_weighFrom_113 rfl (lv_at hl 0 rfl) ?_
      refine va_get (D := (dC, dI)) (ci := 3) (v := .ref a_restByTwo) (C := R_G) (T := F_G) (N := 11) hx hb hts i_G_in hown hK hP 0 rfl rfl 3 (by decide) (hts _ q_110) (fun _ h9 => h9) rfl d_G_weighFrom_114 ?_
      refine lv_iload_n hx hb d_G_weighFrom_117 rfl (lv_at hl 1 rfl) ?_
      refine lv_iload_n hx hb d_G_weighFrom_118 rfl (lv_at hl 2 rfl) ?_
      obtain ⟨Q119, hq119, h⟩ := h
      have hPc := hP.sub (ws' := (cw_G_leastThrough cI a_this a_costs a_restByTwo a_outlines a_rest a_restByTwo a_points a_xs a_ys a_angles a_turns n_costs n_restByTwo c_count c_cost f_costs f_restByTwo_l82)) [0, 1, 2] rfl
      have hDc := hD.sub (ws' := (cw_G_leastThrough cI a_this a_costs a_restByTwo a_outlines a_rest a_restByTwo a_points a_xs a_ys a_angles a_turns n_costs n_restByTwo c_count c_cost f_costs f_restByTwo_l82)) [0, 1, 2] (by decide) rfl
      have hFc := va_free (wc := (cw_G_leastThrough cI a_this a_costs a_restByTwo a_outlines a_rest a_restByTwo a_points a_xs a_ys a_angles a_turns n_costs n_restByTwo c_count c_cost f_costs f_restByTwo_l82)) hD hS hA [0, 1, 2] rfl
      refine va_calli (va_runV (As := [.ref a_restByTwo, .int x1, .int x2]) (rest := []) ⟨hx, hb, hml, hown, hts⟩ (c_G_leastThrough l dC dI cI cB cJ cZ a_this a_costs a_restByTwo a_outlines a_rest a_restByTwo a_points a_xs a_ys a_angles a_turns H.size n_costs n_restByTwo c_count c_cost f_costs f_restByTwo_l82 x1 x2 Q119 hq119) (cwV 3 hts (goodV q_513 q_515 q_p15 q_5 q_516) rfl rfl rfl (by decide +kernel) ⟨Nat.le_of_ble_eq_true rfl, Nat.le_of_ble_eq_true rfl⟩) ⟨fun a U g mk q => by obtain ⟨q0, q1, qP, qK, qD⟩ := q; exact ⟨q0, q1, qP, va_K.moved (u := U) (U := U.calling g mk a) (Vm.Alike.refl U.vm) qK, qD⟩, va_recv hK hPc (ci := 3) (q0 := 0) rfl rfl, fun U hU hW => ⟨rfl, by rw [hU], by rw [hU]; exact hPc, va_K.moved hW.alike hK, hDc.weaken (fun _ _ _ _ => trivial)⟩⟩ rfl rfl hl.1 rfl (lv_room (Nat.le_of_ble_eq_true rfl)) d_G_weighFrom_119 ⟨Nat.le_of_ble_eq_true rfl, Nat.le_of_ble_eq_true rfl⟩) hS (fun q _ h => hFc q h) hFc (fun r119 u119 t H1 locs ht hvm hw hB hz1 hk1 hS => ?_)
      cases u119
      obtain ⟨hP1, -, hD1⟩ := hB
      rw [ht] at hP1
      have h := h r119 hw
      obtain ⟨hP, hD⟩ := va_join (wr := [(a_rest, .inl (cI, n_rest, .inl f_rest_l4))]) (w1 := (cw_G_leastThrough cI a_this a_costs a_restByTwo a_outlines a_rest a_restByTwo a_points a_xs a_ys a_angles a_turns n_costs n_restByTwo c_count c_cost f_costs f_restByTwo_l82)) hP hD [0, 1, 2] [3] rfl rfl (by decide) (by decide) hk1 hFc hP1 hD1
      clear hP1 hD1 hk1 hPc hDc hFc
      generalize H1 = H at hP hS ⊢
      have hP : va_P (dC, dI) vwCl (cw_G_weighFrom cI a_this a_costs a_restByTwo a_rest a_outlines a_points a_xs a_ys a_angles a_turns n_costs n_restByTwo n_rest c_count c_cost f_costs f_restByTwo_l82 f_rest_l4) H := hP.sub [1, 2, 3, 0] rfl
      have hD : va_D A (cw_G_weighFrom cI a_this a_costs a_restByTwo a_rest a_outlines a_points a_xs a_ys a_angles a_turns n_costs n_restByTwo n_rest c_count c_cost f_costs f_restByTwo_l82 f_rest_l4) := hD.sub [1, 2, 3, 0] (by decide) rfl
      subst hQf
      exact W.iret (v := r119) hx hb hr (fun t ht hW => ⟨⟨r119, (f_restByTwo_l82, f_rest_l4), rfl, h, by rw [ht]; exact hP, va_K.moved hW.alike hK, hD⟩, hS.F ht⟩) hS.2.2 d_G_weighFrom_122
    · have h := h.2 cc_
      refine lv_aload_n hx hb d_G_weighFrom_88 rfl (lv_at hl 0 rfl) ?_
      refine va_get (D := (dC, dI)) (ci := 3) (v := .ref a_restByTwo) (C := R_G) (T := F_G) (N := 11) hx hb hts i_G_in hown hK hP 0 rfl rfl 3 (by decide) (hts _ q_110) (fun _ h9 => h9) rfl d_G_weighFrom_89 ?_
      refine lv_iload hx hb d_G_weighFrom_92 (lv_at hl 4 rfl) ?_
      refine lv_aload_n hx hb d_G_weighFrom_94 rfl (lv_at hl 0 rfl) ?_
      refine lv_aload_n hx hb d_G_weighFrom_95 rfl (lv_at hl 0 rfl) ?_
      refine va_get (D := (dC, dI)) (ci := 3) (v := .ref a_rest) (C := R_G) (T := F_G) (N := 11) hx hb hts i_G_in hown hK hP 0 rfl rfl 2 (by decide) (hts _ q_109) (fun _ h9 => h9) rfl d_G_weighFrom_96 ?_
      refine lv_iload hx hb d_G_weighFrom_99 (lv_at hl 4 rfl) ?_
      refine lv_iload_n hx hb d_G_weighFrom_101 rfl (lv_at hl 2 rfl) ?_
      obtain ⟨Q102, hq102, h⟩ := h
      have hPc := hP.sub (ws' := (cw_G_leastThrough cI a_this a_costs a_rest a_outlines a_rest a_restByTwo a_points a_xs a_ys a_angles a_turns n_costs n_rest c_count c_cost f_costs f_rest_l4)) [0, 1, 3] rfl
      have hDc := hD.sub (ws' := (cw_G_leastThrough cI a_this a_costs a_rest a_outlines a_rest a_restByTwo a_points a_xs a_ys a_angles a_turns n_costs n_rest c_count c_cost f_costs f_rest_l4)) [0, 1, 3] (by decide) rfl
      have hFc := va_free (wc := (cw_G_leastThrough cI a_this a_costs a_rest a_outlines a_rest a_restByTwo a_points a_xs a_ys a_angles a_turns n_costs n_rest c_count c_cost f_costs f_rest_l4)) hD hS hA [0, 1, 3] rfl
      refine va_calli (va_runV (As := [.ref a_rest, .int x4_l82, .int x2]) (rest := [.int x4_l82, .ref a_restByTwo]) ⟨hx, hb, hml, hown, hts⟩ (c_G_leastThrough l dC dI cI cB cJ cZ a_this a_costs a_rest a_outlines a_rest a_restByTwo a_points a_xs a_ys a_angles a_turns H.size n_costs n_rest c_count c_cost f_costs f_rest_l4 x4_l82 x2 Q102 hq102) (cwV 3 hts (goodV q_513 q_515 q_p15 q_5 q_516) rfl rfl rfl (by decide +kernel) ⟨Nat.le_of_ble_eq_true rfl, Nat.le_of_ble_eq_true rfl⟩) ⟨fun a U g mk q => by obtain ⟨q0, q1, qP, qK, qD⟩ := q; exact ⟨q0, q1, qP, va_K.moved (u := U) (U := U.calling g mk a) (Vm.Alike.refl U.vm) qK, qD⟩, va_recv hK hPc (ci := 3) (q0 := 0) rfl rfl, fun U hU hW => ⟨rfl, by rw [hU], by rw [hU]; exact hPc, va_K.moved hW.alike hK, hDc.weaken (fun _ _ _ _ => trivial)⟩⟩ rfl rfl hl.1 rfl (lv_room (Nat.le_of_ble_eq_true rfl)) d_G_weighFrom_102 ⟨Nat.le_of_ble_eq_true rfl, Nat.le_of_ble_eq_true rfl⟩) hS (fun q _ h => hFc q h) hFc (fun r102 u102 t H1 locs ht hvm hw hB hz1 hk1 hS => ?_)
      cases u102
      obtain ⟨hP1, -, hD1⟩ := hB
      rw [ht] at hP1
      have h := h r102 hw
      obtain ⟨hP, hD⟩ := va_join (wr := [(a_restByTwo, .inl (cI, n_restByTwo, .inl f_restByTwo_l82))]) (w1 := (cw_G_leastThrough cI a_this a_costs a_rest a_outlines a_rest a_restByTwo a_points a_xs a_ys a_angles a_turns n_costs n_rest c_count c_cost f_costs f_rest_l4)) hP hD [0, 1, 3] [2] rfl rfl (by decide) (by decide) hk1 hFc hP1 hD1
      clear hP1 hD1 hk1 hPc hDc hFc
      generalize H1 = H at hP hS ⊢
      have hP : va_P (dC, dI) vwCl (cw_G_weighFrom cI a_this a_costs a_restByTwo a_rest a_outlines a_points a_xs a_ys a_angles a_turns n_costs n_restByTwo n_rest c_count c_cost f_costs f_restByTwo_l82 f_rest_l4) H := hP.sub [1, 2, 0, 3] rfl
      have hD : va_D A (cw_G_weighFrom cI a_this a_costs a_restByTwo a_rest a_outlines a_points a_xs a_ys a_angles a_turns n_costs n_restByTwo n_rest c_count c_cost f_costs f_restByTwo_l82 f_rest_l4) := hD.sub [1, 2, 0, 3] (by decide) rfl
      obtain ⟨hin, h⟩ := h
      refine va_iast hx hb hK hP hD hS 2 0 rfl rfl hin d_G_weighFrom_105 (fun H locs hP hD hS => ?_)
      obtain ⟨f105, e_f105⟩ : ∃ y : Nat → Int32, y = upd f_restByTwo_l82 x4_l82.toNatClampNeg r102 := ⟨_, rfl⟩
      have h := h f105 e_f105
      have hP : va_P (dC, dI) vwCl (cw_G_weighFrom cI a_this a_costs a_restByTwo a_rest a_outlines a_points a_xs a_ys a_angles a_turns n_costs n_restByTwo n_rest c_count c_cost f_costs f105 f_rest_l4) H := by rw [e_f105]; exact hP
      have hD : va_D A (cw_G_weighFrom cI a_this a_costs a_restByTwo a_rest a_outlines a_points a_xs a_ys a_angles a_turns n_costs n_restByTwo n_rest c_count c_cost f_costs f105 f_rest_l4) := by rw [e_f105]; exact hD
      obtain ⟨x4_106, e_x4_106⟩ : ∃ y : Int32, y = x4_l82 + (1 : Int32) := ⟨_, rfl⟩
      have h := h x4_106 e_x4_106
      refine lv_iinc (v := x4_106) (lv' := [(4, .int x4_106), (0, .ref a_this), (1, .int x1), (2, .int x2), (3, .int x3_76)]) hx hb d_G_weighFrom_106 hl (k := 4) rfl (by rw [e_x4_106]; rfl) (by decide) rfl (fun ls hl => ?_)
      refine lv_goto (tgt := 82) hx hb d_G_weighFrom_109 (by decide) ?_
      exact hb82 _ h _ _ _ hP hD hS (lv_sub hl [1, 2, 3, 4, 0] rfl)
  · have h := h.2 cc_
    refine lv_aload_n hx hb d_G_weighFrom_9 rfl (lv_at hl 0 rfl) ?_
    refine lv_iload_n hx hb d_G_weighFrom_10 rfl (lv_at hl 3 rfl) ?_
    refine lv_iload_n hx hb d_G_weighFrom_11 rfl (lv_at hl 2 rfl) ?_
    refine lv_iload_n hx hb d_G_weighFrom_12 rfl (lv_at hl 1 rfl) ?_
    refine lv_iadd hx hb d_G_weighFrom_13 ?_
    refine lv_iload_n hx hb d_G_weighFrom_14 rfl (lv_at hl 3 rfl) ?_
    refine lv_isub hx hb d_G_weighFrom_15 ?_
    obtain ⟨Q16, hq16, h⟩ := h
    have hPc := hP.sub (ws' := (cw_G_pieceCost cI a_this a_costs a_outlines a_rest a_restByTwo a_points a_xs a_ys a_angles a_turns n_costs c_count c_cost f_costs)) [0, 1] rfl
    have hDc := hD.sub (ws' := (cw_G_pieceCost cI a_this a_costs a_outlines a_rest a_restByTwo a_points a_xs a_ys a_angles a_turns n_costs c_count c_cost f_costs)) [0, 1] (by decide) rfl
    have hFc := va_free (wc := (cw_G_pieceCost cI a_this a_costs a_outlines a_rest a_restByTwo a_points a_xs a_ys a_angles a_turns n_costs c_count c_cost f_costs)) hD hS hA [0, 1] rfl
    refine va_calli (va_runV (As := [.int x3_l4, .int ((x2 + x1) - x3_l4)]) (rest := []) ⟨hx, hb, hml, hown, hts⟩ (c_G_pieceCost l dC dI cI cB cJ cZ a_this a_costs a_outlines a_rest a_restByTwo a_points a_xs a_ys a_angles a_turns H.size n_costs c_count c_cost f_costs x3_l4 ((x2 + x1) - x3_l4) Q16 hq16) (cwV 2 hts (goodV q_509 q_511 q_p14 q_5 q_512) rfl rfl rfl (by decide +kernel) ⟨Nat.le_of_ble_eq_true rfl, Nat.le_of_ble_eq_true rfl⟩) ⟨fun a U g mk q => by obtain ⟨q0, q1, qP, qK, qD⟩ := q; exact ⟨q0, q1, qP, va_K.moved (u := U) (U := U.calling g mk a) (Vm.Alike.refl U.vm) qK, qD⟩, va_recv hK hPc (ci := 3) (q0 := 0) rfl rfl, fun U hU hW => ⟨rfl, by rw [hU], by rw [hU]; exact hPc, va_K.moved hW.alike hK, hDc.weaken (fun _ _ _ _ => trivial)⟩⟩ rfl rfl hl.1 rfl (lv_room (Nat.le_of_ble_eq_true rfl)) d_G_weighFrom_16 ⟨Nat.le_of_ble_eq_true rfl, Nat.le_of_ble_eq_true rfl⟩) hS (fun q _ h => hFc q h) hFc (fun r16 u16 t H1 locs ht hvm hw hB hz1 hk1 hS => ?_)
    cases u16
    obtain ⟨hP1, -, hD1⟩ := hB
    rw [ht] at hP1
    have h := h r16 hw
    obtain ⟨hP, hD⟩ := va_join (wr := [(a_restByTwo, .inl (cI, n_restByTwo, .inl f_restByTwo)), (a_rest, .inl (cI, n_rest, .inl f_rest_l4))]) (w1 := (cw_G_pieceCost cI a_this a_costs a_outlines a_rest a_restByTwo a_points a_xs a_ys a_angles a_turns n_costs c_count c_cost f_costs)) hP hD [0, 1] [2, 3] rfl rfl (by decide) (by decide) hk1 hFc hP1 hD1
    clear hP1 hD1 hk1 hPc hDc hFc
    generalize H1 = H at hP hS ⊢
    have hP : va_P (dC, dI) vwCl (cw_G_weighFrom cI a_this a_costs a_restByTwo a_rest a_outlines a_points a_xs a_ys a_angles a_turns n_costs n_restByTwo n_rest c_count c_cost f_costs f_restByTwo f_rest_l4) H := hP.sub [2, 3, 0, 1] rfl
    have hD : va_D A (cw_G_weighFrom cI a_this a_costs a_restByTwo a_rest a_outlines a_points a_xs a_ys a_angles a_turns n_costs n_restByTwo n_rest c_count c_cost f_costs f_restByTwo f_rest_l4) := hD.sub [2, 3, 0, 1] (by decide) rfl
    refine lv_istore (lv' := [(4, .int r16), (0, .ref a_this), (1, .int x1), (2, .int x2), (3, .int x3_l4)]) hx hb d_G_weighFrom_19 hl (by decide) rfl (fun ls hl => ?_)
    refine lv_aload_n hx hb d_G_weighFrom_21 rfl (lv_at hl 1 rfl) ?_
    refine lv_aload_n hx hb d_G_weighFrom_22 rfl (lv_at hl 1 rfl) ?_
    refine va_get (D := (dC, dI)) (ci := 3) (v := .ref a_rest) (C := R_G) (T := F_G) (N := 11) hx hb hts i_G_in hown hK hP 0 rfl rfl 2 (by decide) (hts _ q_109) (fun _ h9 => h9) rfl d_G_weighFrom_23 ?_
    refine lv_iload_n hx hb d_G_weighFrom_26 rfl (lv_at hl 4 rfl) ?_
    refine lv_iload_n hx hb d_G_weighFrom_27 rfl (lv_at hl 3 rfl) ?_
    obtain ⟨Q28, hq28, h⟩ := h
    have hPc := hP.sub (ws' := (cw_G_leastThrough cI a_this a_costs a_rest a_outlines a_rest a_restByTwo a_points a_xs a_ys a_angles a_turns n_costs n_rest c_count c_cost f_costs f_rest_l4)) [0, 1, 3] rfl
    have hDc := hD.sub (ws' := (cw_G_leastThrough cI a_this a_costs a_rest a_outlines a_rest a_restByTwo a_points a_xs a_ys a_angles a_turns n_costs n_rest c_count c_cost f_costs f_rest_l4)) [0, 1, 3] (by decide) rfl
    have hFc := va_free (wc := (cw_G_leastThrough cI a_this a_costs a_rest a_outlines a_rest a_restByTwo a_points a_xs a_ys a_angles a_turns n_costs n_rest c_count c_cost f_costs f_rest_l4)) hD hS hA [0, 1, 3] rfl
    refine va_calli (va_runV (As := [.ref a_rest, .int x3_l4, .int x2]) (rest := []) ⟨hx, hb, hml, hown, hts⟩ (c_G_leastThrough l dC dI cI cB cJ cZ a_this a_costs a_rest a_outlines a_rest a_restByTwo a_points a_xs a_ys a_angles a_turns H.size n_costs n_rest c_count c_cost f_costs f_rest_l4 x3_l4 x2 Q28 hq28) (cwV 3 hts (goodV q_513 q_515 q_p15 q_5 q_516) rfl rfl rfl (by decide +kernel) ⟨Nat.le_of_ble_eq_true rfl, Nat.le_of_ble_eq_true rfl⟩) ⟨fun a U g mk q => by obtain ⟨q0, q1, qP, qK, qD⟩ := q; exact ⟨q0, q1, qP, va_K.moved (u := U) (U := U.calling g mk a) (Vm.Alike.refl U.vm) qK, qD⟩, va_recv hK hPc (ci := 3) (q0 := 0) rfl rfl, fun U hU hW => ⟨rfl, by rw [hU], by rw [hU]; exact hPc, va_K.moved hW.alike hK, hDc.weaken (fun _ _ _ _ => trivial)⟩⟩ rfl rfl hl.1 rfl (lv_room (Nat.le_of_ble_eq_true rfl)) d_G_weighFrom_28 ⟨Nat.le_of_ble_eq_true rfl, Nat.le_of_ble_eq_true rfl⟩) hS (fun q _ h => hFc q h) hFc (fun r28 u28 t H1 locs ht hvm hw hB hz1 hk1 hS => ?_)
    cases u28
    obtain ⟨hP1, -, hD1⟩ := hB
    rw [ht] at hP1
    have h := h r28 hw
    obtain ⟨hP, hD⟩ := va_join (wr := [(a_restByTwo, .inl (cI, n_restByTwo, .inl f_restByTwo))]) (w1 := (cw_G_leastThrough cI a_this a_costs a_rest a_outlines a_rest a_restByTwo a_points a_xs a_ys a_angles a_turns n_costs n_rest c_count c_cost f_costs f_rest_l4)) hP hD [0, 1, 3] [2] rfl rfl (by decide) (by decide) hk1 hFc hP1 hD1
    clear hP1 hD1 hk1 hPc hDc hFc
    generalize H1 = H at hP hS ⊢
    have hP : va_P (dC, dI) vwCl (cw_G_weighFrom cI a_this a_costs a_restByTwo a_rest a_outlines a_points a_xs a_ys a_angles a_turns n_costs n_restByTwo n_rest c_count c_cost f_costs f_restByTwo f_rest_l4) H := hP.sub [1, 2, 0, 3] rfl
    have hD : va_D A (cw_G_weighFrom cI a_this a_costs a_restByTwo a_rest a_outlines a_points a_xs a_ys a_angles a_turns n_costs n_restByTwo n_rest c_count c_cost f_costs f_restByTwo f_rest_l4) := hD.sub [1, 2, 0, 3] (by decide) rfl
    refine lv_istore (lv' := [(5, .int r28), (4, .int r16), (0, .ref a_this), (1, .int x1), (2, .int x2), (3, .int x3_l4)]) hx hb d_G_weighFrom_31 hl (by decide) rfl (fun ls hl => ?_)
    refine lv_aload_n hx hb d_G_weighFrom_33 rfl (lv_at hl 2 rfl) ?_
    refine va_get (D := (dC, dI)) (ci := 3) (v := .ref a_rest) (C := R_G) (T := F_G) (N := 11) hx hb hts i_G_in hown hK hP 0 rfl rfl 2 (by decide) (hts _ q_109) (fun _ h9 => h9) rfl d_G_weighFrom_34 ?_
    refine lv_iload_n hx hb d_G_weighFrom_37 rfl (lv_at hl 5 rfl) ?_
    refine lv_iload hx hb d_G_weighFrom_38 (lv_at hl 1 rfl) ?_
    refine lv_iconst (v := -1) hx hb d_G_weighFrom_40 (by decide) ?_
    refine lv_icmp_ne (tgt := 49) hx hb d_G_weighFrom_41 (by decide) (fun cc_ => ?_) (fun cc_ => ?_)
    · have h := h.1 cc_
      refine lv_iload hx hb d_G_weighFrom_49 (lv_at hl 0 rfl) ?_
      refine lv_ldc (v := 262144) hx hb hown (hts _ q_517) d_G_weighFrom_51 ?_
      refine lv_iload hx hb d_G_weighFrom_53 (lv_at hl 1 rfl) ?_
      refine lv_iadd hx hb d_G_weighFrom_55 ?_
      refine va_mmin hx hb (hml.trans hl.1.symm) hown (hts _ q_498) (hts _ q_31) (hts _ q_3) (hts _ q_32) (Nat.le_of_ble_eq_true rfl) (Nat.le_of_ble_eq_true rfl) (Nat.zero_le _) (Nat.zero_le _) d_G_weighFrom_56 ?_
      refine W.eq (g2 := F0 m 59 ls [.int (jmin r28 ((262144 : Int32) + r16)), .int x3_l4, .ref a_rest]) rfl ?_
      exact J59 x3_l4 (jmin r28 ((262144 : Int32) + r16)) x3_l4 f_rest_l4 _ _ _ h hP hD hS (lv_sub hl [2, 3, 4, 5] rfl)
    · have h := h.2 cc_
      refine lv_iload hx hb d_G_weighFrom_44 (lv_at hl 0 rfl) ?_
      refine lv_goto (tgt := 59) hx hb d_G_weighFrom_46 (by decide) ?_
      exact J59 x3_l4 r28 x3_l4 f_rest_l4 _ _ _ h hP hD hS (lv_sub hl [2, 3, 4, 5] rfl)
def wp_G_earliestThrough_J59 (n_costs n_p0 : Nat) (f_costs : Nat → Int32) (f_p0 : Nat → Int32) (x2 : Int32) (x4 : Int32) (x5 : Int32) (x6 : Int32) (back17 : Int32 → Prop) (post : Int32 → Unit → Prop) : Prop :=
  ∀ x6_59 : Int32, x6_59 = x6 + (1 : Int32) → back17 x6_59
def wp_G_earliestThrough_L17 (n_costs n_p0 : Nat) (f_costs : Nat → Int32) (f_p0 : Nat → Int32) (x2 : Int32) (x4 : Int32) (x5 : Int32) (post : Int32 → Unit → Prop) (back17 : Int32 → Prop) (x6 : Int32) : Prop :=
  (x5 ≤ x6 → post (-1 : Int32) ()) ∧ (¬ x5 ≤ x6 → ∃ Q30 : Int32 → Unit → Prop, wp_G_pieceCost n_costs f_costs x2 (x6 - x2) Q30 ∧ ∀ (r30 : Int32), Q30 r30 () → (r30 = (-1 : Int32) → wp_G_earliestThrough_J59 n_costs n_p0 f_costs f_p0 x2 x4 x5 x6 back17 post) ∧ (¬ r30 = (-1 : Int32) → vp_in x6 n_p0 ∧ (¬ (((262144 : Int32) + r30) + (f_p0 x6.toNatClampNeg)) = x4 → wp_G_earliestThrough_J59 n_costs n_p0 f_costs f_p0 x2 x4 x5 x6 back17 post) ∧ ((((262144 : Int32) + r30) + (f_p0 x6.toNatClampNeg)) = x4 → post x6 ())))
def wp_G_earliestThrough (n_costs n_p0 : Nat) (f_costs : Nat → Int32) (f_p0 : Nat → Int32) (x2 : Int32) (x3 : Int32) (x4 : Int32) (post : Int32 → Unit → Prop) : Prop :=
  ∀ x5_10 : Int32, x5_10 = (jmin ((x2 + (24 : Int32)) + (1 : Int32)) x3) → ∀ x6_15 : Int32, x6_15 = (x2 + (1 : Int32)) → lpW (fun b z => wp_G_earliestThrough_L17 n_costs n_p0 f_costs f_p0 x2 x4 x5_10 post b z) x6_15
abbrev cw_G_earliestThrough (cI : ClassId) (a_this a_costs a_p0 a_outlines a_rest a_restByTwo a_points a_xs a_ys a_angles a_turns : Nat) (n_costs n_p0 : Nat) (c_count : Int32) (c_cost : Int32) (f_costs : Nat → Int32) (f_p0 : Nat → Int32) : va_W := [(a_this, .inr (3, [.ref a_outlines, .ref a_costs, .ref a_rest, .ref a_restByTwo, .ref a_points, .ref a_xs, .ref a_ys, .ref a_angles, .ref a_turns, .int c_count, .int c_cost])), (a_costs, .inl (cI, n_costs, .inl f_costs)), (a_p0, .inl (cI, n_p0, .inl f_p0))]
abbrev qq_G_earliestThrough (dC : Nat → ClassId) (dI : Nat → Nat → Nat) (cI cB cJ cZ : ClassId) (a_this a_costs a_p0 a_outlines a_rest a_restByTwo a_points a_xs a_ys a_angles a_turns : Nat) (n_costs n_p0 : Nat) (c_count : Int32) (c_cost : Int32) (f_costs : Nat → Int32) (f_p0 : Nat → Int32) (A : Nat → Prop) (post : Int32 → Unit → Prop) : Array Value → State → Outcome → State → Prop := va_Qi post (fun _ t => va_P (dC, dI) vwCl (cw_G_earliestThrough cI a_this a_costs a_p0 a_outlines a_rest a_restByTwo a_points a_xs a_ys a_angles a_turns n_costs n_p0 c_count c_cost f_costs f_p0) t.heap ∧ va_K (dC, dI) vwCl [(cI, .int), (cB, .byte), (cJ, .long), (cZ, .boolean)] t ∧ va_D A (cw_G_earliestThrough cI a_this a_costs a_p0 a_outlines a_rest a_restByTwo a_points a_xs a_ys a_angles a_turns n_costs n_p0 c_count c_cost f_costs f_p0)) A
set_option maxHeartbeats 4000000 in
set_option maxRecDepth 100000 in
theorem c_G_earliestThrough (l : Launch) (dC : Nat → ClassId) (dI : Nat → Nat → Nat) (cI cB cJ cZ : ClassId) (a_this a_costs a_p0 a_outlines a_rest a_restByTwo a_points a_xs a_ys a_angles a_turns : Nat) (sz : Nat) (n_costs n_p0 : Nat) (c_count : Int32) (c_cost : Int32) (f_costs : Nat → Int32) (f_p0 : Nat → Int32) (x2 : Int32) (x3 : Int32) (x4 : Int32) (post : Int32 → Unit → Prop) (h : wp_G_earliestThrough n_costs n_p0 f_costs f_p0 x2 x3 x4 post) : Met l y_G_earliestThrough w_G_earliestThrough ({ frames := 1, cells := 0, slots := 0, locals := 22 }) (va_Pc [.ref a_this, .ref a_p0, .int x2, .int x3, .int x4] (fun U => U.heap.size = sz ∧ va_P (dC, dI) vwCl (cw_G_earliestThrough cI a_this a_costs a_p0 a_outlines a_rest a_restByTwo a_points a_xs a_ys a_angles a_turns n_costs n_p0 c_count c_cost f_costs f_p0) U.heap ∧ va_K (dC, dI) vwCl [(cI, .int), (cB, .byte), (cJ, .long), (cZ, .boolean)] U ∧ va_D (fun _ => True) (cw_G_earliestThrough cI a_this a_costs a_p0 a_outlines a_rest a_restByTwo a_points a_xs a_ys a_angles a_turns n_costs n_p0 c_count c_cost f_costs f_p0))) (qq_G_earliestThrough dC dI cI cB cJ cZ a_this a_costs a_p0 a_outlines a_rest a_restByTwo a_points a_xs a_ys a_angles a_turns n_costs n_p0 c_count c_cost f_costs f_p0 (va_A (cw_G_earliestThrough cI a_this a_costs a_p0 a_outlines a_rest a_restByTwo a_points a_xs a_ys a_angles a_turns n_costs n_p0 c_count c_cost f_costs f_p0) sz) post) 0 0 (va_A (cw_G_earliestThrough cI a_this a_costs a_p0 a_outlines a_rest a_restByTwo a_points a_xs a_ys a_angles a_turns n_costs n_p0 c_count c_cost f_costs f_p0) sz) := by
  refine Met.ofW (cc := b_G_earliestThrough) (maxL := 8) (ret := (some .int)) (by decide +kernel) rfl ?_
  intro p e s m args below meth c s₁ B hml hv
  obtain ⟨rfl, hsz, hP, hK, hD0⟩ := hv
  have hx := B.exec
  have hb := B.bytes
  have hr := B.returns
  have hts : ∀ w ∈ allW, w.before _ s = true := fun w hw => atoms_spec (ws := w_G_earliestThrough) B.pre w (List.mem_cons_of_mem _ hw)
  have hown : s.vm.findClass R_G = some m.cls := findClass_of_methodNamed B.named
  have hlocks := B.notSynchronized
  subst hsz
  have hD := hD0.self (sz := s.heap.size)
  generalize hAe : va_A (cw_G_earliestThrough cI a_this a_costs a_p0 a_outlines a_rest a_restByTwo a_points a_xs a_ys a_angles a_turns n_costs n_p0 c_count c_cost f_costs f_p0) s.heap.size = A at hD ⊢
  have hA : ∀ q : Nat, s.heap.size ≤ q → A q := fun q h => by rw [← hAe]; exact Or.inr h
  have hS : va_S A s.heap s.heap [] := va_S.rf
  clear hD0
  generalize hQf : MQ below (qq_G_earliestThrough dC dI cI cB cJ cZ a_this a_costs a_p0 a_outlines a_rest a_restByTwo a_points a_xs a_ys a_angles a_turns n_costs n_p0 c_count c_cost f_costs f_p0 A post) ([.ref a_this, .ref a_p0, .int x2, .int x3, .int x4] : List Value).toArray s 0 0 A = Qf
  have hl := lv_entry ([.ref a_this, .ref a_p0, .int x2, .int x3, .int x4]) (n := 8) (Nat.le_of_ble_eq_true rfl)
  rw [lg_entry_eq]
  generalize (lg_sl ([.ref a_this, .ref a_p0, .int x2, .int x3, .int x4]) ++ List.replicate (8 - (lg_sl ([.ref a_this, .ref a_p0, .int x2, .int x3, .int x4])).length) Slot.unset).toArray = ls at hl ⊢
  have hl : lv_has ls 8 [(0, .ref a_this), (1, .ref a_p0), (2, .int x2), (3, .int x3), (4, .int x4)] := hl
  unfold wp_G_earliestThrough at h
  refine lv_iload_n hx hb d_G_earliestThrough_0 rfl (lv_at hl 2 rfl) ?_
  refine lv_bipush (v := 24) hx hb d_G_earliestThrough_1 (by decide) ?_
  refine lv_iadd hx hb d_G_earliestThrough_3 ?_
  refine lv_iconst (v := 1) hx hb d_G_earliestThrough_4 (by decide) ?_
  refine lv_iadd hx hb d_G_earliestThrough_5 ?_
  refine lv_iload_n hx hb d_G_earliestThrough_6 rfl (lv_at hl 3 rfl) ?_
  refine va_mmin hx hb (hml.trans hl.1.symm) hown (hts _ q_498) (hts _ q_31) (hts _ q_3) (hts _ q_32) (Nat.le_of_ble_eq_true rfl) (Nat.le_of_ble_eq_true rfl) (Nat.zero_le _) (Nat.zero_le _) d_G_earliestThrough_7 ?_
  refine W.eq (g2 := F0 m 10 ls [.int (jmin ((x2 + (24 : Int32)) + (1 : Int32)) x3)]) rfl ?_
  refine lv_topi (fun x5_10 e_x5_10 => ?_)
  have h := h x5_10 e_x5_10
  refine lv_istore (lv' := [(5, .int x5_10), (0, .ref a_this), (1, .ref a_p0), (2, .int x2), (3, .int x3), (4, .int x4)]) hx hb d_G_earliestThrough_10 hl (by decide) rfl (fun ls hl => ?_)
  refine lv_iload_n hx hb d_G_earliestThrough_12 rfl (lv_at hl 3 rfl) ?_
  refine lv_iconst (v := 1) hx hb d_G_earliestThrough_13 (by decide) ?_
  refine lv_iadd hx hb d_G_earliestThrough_14 ?_
  refine lv_topi (fun x6_15 e_x6_15 => ?_)
  have h := h x6_15 e_x6_15
  refine lv_istore (lv' := [(6, .int x6_15), (5, .int x5_10), (0, .ref a_this), (1, .ref a_p0), (2, .int x2), (3, .int x3), (4, .int x4)]) hx hb d_G_earliestThrough_15 hl (by decide) rfl (fun ls hl => ?_)
  refine lpW_ind (Wp := fun z => ∀ (H : Heap) (locs : List Loc) (ls : Array Slot), va_P (dC, dI) vwCl (cw_G_earliestThrough cI a_this a_costs a_p0 a_outlines a_rest a_restByTwo a_points a_xs a_ys a_angles a_turns n_costs n_p0 c_count c_cost f_costs f_p0) H → va_D A (cw_G_earliestThrough cI a_this a_costs a_p0 a_outlines a_rest a_restByTwo a_points a_xs a_ys a_angles a_turns n_costs n_p0 c_count c_cost f_costs f_p0) → va_S A s.heap H locs → lv_has ls 8 [(0, .ref a_this), (1, .ref a_p0), (2, .int x2), (4, .int x4), (5, .int x5_10), (6, .int z)] → W p l e (headSpec w_G_earliestThrough ({ frames := 1, cells := 0, slots := 0, locals := 22 })).room s m ([.ref a_this, .ref a_p0, .int x2, .int x3, .int x4] : List Value).toArray below meth c H locs 0 0 Qf (F0 m 17 ls [])) h ?_ _ _ _ hP hD hS (lv_sub hl [2, 3, 4, 6, 1, 0] rfl)
  intro x6_l17 back17 h hb17 H locs ls hP hD hS hl
  have h : wp_G_earliestThrough_L17 n_costs n_p0 f_costs f_p0 x2 x4 x5_10 post back17 x6_l17 := h
  have hP : va_P (dC, dI) vwCl (cw_G_earliestThrough cI a_this a_costs a_p0 a_outlines a_rest a_restByTwo a_points a_xs a_ys a_angles a_turns n_costs n_p0 c_count c_cost f_costs f_p0) H := hP
  have hD : va_D A (cw_G_earliestThrough cI a_this a_costs a_p0 a_outlines a_rest a_restByTwo a_points a_xs a_ys a_angles a_turns n_costs n_p0 c_count c_cost f_costs f_p0) := hD
  have hl : lv_has ls 8 [(0, .ref a_this), (1, .ref a_p0), (2, .int x2), (4, .int x4), (5, .int x5_10), (6, .int x6_l17)] := hl
  unfold wp_G_earliestThrough_L17 at h
  have J59 : ∀ (x6_j59 : Int32) (H : Heap) (locs : List Loc) (ls : Array Slot), wp_G_earliestThrough_J59 n_costs n_p0 f_costs f_p0 x2 x4 x5_10 x6_j59 back17 post → va_P (dC, dI) vwCl (cw_G_earliestThrough cI a_this a_costs a_p0 a_outlines a_rest a_restByTwo a_points a_xs a_ys a_angles a_turns n_costs n_p0 c_count c_cost f_costs f_p0) H → va_D A (cw_G_earliestThrough cI a_this a_costs a_p0 a_outlines a_rest a_restByTwo a_points a_xs a_ys a_angles a_turns n_costs n_p0 c_count c_cost f_costs f_p0) → va_S A s.heap H locs → lv_has ls 8 [(0, .ref a_this), (1, .ref a_p0), (2, .int x2), (4, .int x4), (5, .int x5_10), (6, .int x6_j59)] → W p l e (headSpec w_G_earliestThrough ({ frames := 1, cells := 0, slots := 0, locals := 22 })).room s m ([.ref a_this, .ref a_p0, .int x2, .int x3, .int x4] : List Value).toArray below meth c H locs 0 0 Qf (F0 m 59 ls []) := by
    intro x6_j59 H locs ls h hP hD hS hl
    unfold wp_G_earliestThrough_J59 at h
    obtain ⟨x6_59, e_x6_59⟩ : ∃ y : Int32, y = x6_j59 + (1 : Int32) := ⟨_, rfl⟩
    have h := h x6_59 e_x6_59
    refine lv_iinc (v := x6_59) (lv' := [(6, .int x6_59), (0, .ref a_this), (1, .ref a_p0), (2, .int x2), (4, .int x4), (5, .int x5_10)]) hx hb d_G_earliestThrough_59 hl (k := 5) rfl (by rw [e_x6_59]; rfl) (by decide) rfl (fun ls hl => ?_)
    refine lv_goto (tgt := 17) hx hb d_G_earliestThrough_62 (by decide) ?_
    exact hb17 _ h _ _ _ hP hD hS (lv_sub hl [1, 2, 3, 4, 5, 0] rfl)
  refine lv_iload hx hb d_G_earliestThrough_17 (lv_at hl 5 rfl) ?_
  refine lv_iload hx hb d_G_earliestThrough_19 (lv_at hl 4 rfl) ?_
  refine lv_icmp_ge (tgt := 65) hx hb d_G_earliestThrough_21 (by decide) (fun cc_ => ?_) (fun cc_ => ?_)
  · have h := h.1 cc_
    refine lv_iconst (v := -1) hx hb d_G_earliestThrough_65 (by decide) ?_
    subst hQf
    exact W.iret (v := (-1 : Int32)) hx hb hr (fun t ht hW => ⟨⟨(-1 : Int32), (), rfl, h, by rw [ht]; exact hP, va_K.moved hW.alike hK, hD⟩, hS.F ht⟩) hS.2.2 d_G_earliestThrough_66
  · have h := h.2 cc_
    refine lv_aload_n hx hb d_G_earliestThrough_24 rfl (lv_at hl 0 rfl) ?_
    refine lv_iload_n hx hb d_G_earliestThrough_25 rfl (lv_at hl 2 rfl) ?_
    refine lv_iload hx hb d_G_earliestThrough_26 (lv_at hl 5 rfl) ?_
    refine lv_iload_n hx hb d_G_earliestThrough_28 rfl (lv_at hl 2 rfl) ?_
    refine lv_isub hx hb d_G_earliestThrough_29 ?_
    obtain ⟨Q30, hq30, h⟩ := h
    have hPc := hP.sub (ws' := (cw_G_pieceCost cI a_this a_costs a_outlines a_rest a_restByTwo a_points a_xs a_ys a_angles a_turns n_costs c_count c_cost f_costs)) [0, 1] rfl
    have hDc := hD.sub (ws' := (cw_G_pieceCost cI a_this a_costs a_outlines a_rest a_restByTwo a_points a_xs a_ys a_angles a_turns n_costs c_count c_cost f_costs)) [0, 1] (by decide) rfl
    have hFc := va_free (wc := (cw_G_pieceCost cI a_this a_costs a_outlines a_rest a_restByTwo a_points a_xs a_ys a_angles a_turns n_costs c_count c_cost f_costs)) hD hS hA [0, 1] rfl
    refine va_calli (va_runV (As := [.int x2, .int (x6_l17 - x2)]) (rest := []) ⟨hx, hb, hml, hown, hts⟩ (c_G_pieceCost l dC dI cI cB cJ cZ a_this a_costs a_outlines a_rest a_restByTwo a_points a_xs a_ys a_angles a_turns H.size n_costs c_count c_cost f_costs x2 (x6_l17 - x2) Q30 hq30) (cwV 2 hts (goodV q_509 q_511 q_p14 q_5 q_512) rfl rfl rfl (by decide +kernel) ⟨Nat.le_of_ble_eq_true rfl, Nat.le_of_ble_eq_true rfl⟩) ⟨fun a U g mk q => by obtain ⟨q0, q1, qP, qK, qD⟩ := q; exact ⟨q0, q1, qP, va_K.moved (u := U) (U := U.calling g mk a) (Vm.Alike.refl U.vm) qK, qD⟩, va_recv hK hPc (ci := 3) (q0 := 0) rfl rfl, fun U hU hW => ⟨rfl, by rw [hU], by rw [hU]; exact hPc, va_K.moved hW.alike hK, hDc.weaken (fun _ _ _ _ => trivial)⟩⟩ rfl rfl hl.1 rfl (lv_room (Nat.le_of_ble_eq_true rfl)) d_G_earliestThrough_30 ⟨Nat.le_of_ble_eq_true rfl, Nat.le_of_ble_eq_true rfl⟩) hS (fun q _ h => hFc q h) hFc (fun r30 u30 t H1 locs ht hvm hw hB hz1 hk1 hS => ?_)
    cases u30
    obtain ⟨hP1, -, hD1⟩ := hB
    rw [ht] at hP1
    have h := h r30 hw
    obtain ⟨hP, hD⟩ := va_join (wr := [(a_p0, .inl (cI, n_p0, .inl f_p0))]) (w1 := (cw_G_pieceCost cI a_this a_costs a_outlines a_rest a_restByTwo a_points a_xs a_ys a_angles a_turns n_costs c_count c_cost f_costs)) hP hD [0, 1] [2] rfl rfl (by decide) (by decide) hk1 hFc hP1 hD1
    clear hP1 hD1 hk1 hPc hDc hFc
    generalize H1 = H at hP hS ⊢
    have hP : va_P (dC, dI) vwCl (cw_G_earliestThrough cI a_this a_costs a_p0 a_outlines a_rest a_restByTwo a_points a_xs a_ys a_angles a_turns n_costs n_p0 c_count c_cost f_costs f_p0) H := hP.sub [1, 2, 0] rfl
    have hD : va_D A (cw_G_earliestThrough cI a_this a_costs a_p0 a_outlines a_rest a_restByTwo a_points a_xs a_ys a_angles a_turns n_costs n_p0 c_count c_cost f_costs f_p0) := hD.sub [1, 2, 0] (by decide) rfl
    refine lv_istore (lv' := [(7, .int r30), (0, .ref a_this), (1, .ref a_p0), (2, .int x2), (4, .int x4), (5, .int x5_10), (6, .int x6_l17)]) hx hb d_G_earliestThrough_33 hl (by decide) rfl (fun ls hl => ?_)
    refine lv_iload hx hb d_G_earliestThrough_35 (lv_at hl 0 rfl) ?_
    refine lv_iconst (v := -1) hx hb d_G_earliestThrough_37 (by decide) ?_
    refine lv_icmp_eq (tgt := 59) hx hb d_G_earliestThrough_38 (by decide) (fun cc_ => ?_) (fun cc_ => ?_)
    · have h := h.1 cc_
      exact J59 x6_l17 _ _ _ h hP hD hS (lv_sub hl [1, 2, 3, 4, 5, 6] rfl)
    · have h := h.2 cc_
      refine lv_ldc (v := 262144) hx hb hown (hts _ q_517) d_G_earliestThrough_41 ?_
      refine lv_iload hx hb d_G_earliestThrough_43 (lv_at hl 0 rfl) ?_
      refine lv_iadd hx hb d_G_earliestThrough_45 ?_
      refine lv_aload_n hx hb d_G_earliestThrough_46 rfl (lv_at hl 2 rfl) ?_
      refine lv_iload hx hb d_G_earliestThrough_47 (lv_at hl 6 rfl) ?_
      obtain ⟨hin, h⟩ := h
      refine va_iald hx hb hK hP 2 0 rfl rfl hin d_G_earliestThrough_49 ?_
      refine lv_iadd hx hb d_G_earliestThrough_50 ?_
      refine lv_iload hx hb d_G_earliestThrough_51 (lv_at hl 4 rfl) ?_
      refine lv_icmp_ne (tgt := 59) hx hb d_G_earliestThrough_53 (by decide) (fun cc_ => ?_) (fun cc_ => ?_)
      · have h := h.1 cc_
        exact J59 x6_l17 _ _ _ h hP hD hS (lv_sub hl [1, 2, 3, 4, 5, 6] rfl)
      · have h := h.2 cc_
        refine lv_iload hx hb d_G_earliestThrough_56 (lv_at hl 6 rfl) ?_
        subst hQf
        exact W.iret (v := x6_l17) hx hb hr (fun t ht hW => ⟨⟨x6_l17, (), rfl, h, by rw [ht]; exact hP, va_K.moved hW.alike hK, hD⟩, hS.F ht⟩) hS.2.2 d_G_earliestThrough_58
def wp_G_follow_L33b (n_points n_costs n_restByTwo n_rest : Nat) (f_costs : Nat → Int32) (f_restByTwo : Nat → Int32) (f_rest : Nat → Int32) (x2 : Int32) (post : (Int32 × (Nat → Int32)) → Prop) (back33b : (Int32 × Int32 × (Nat → Int32)) → Prop) (x6 : Int32) (c_count : Int32) (f_points : Nat → Int32) : Prop :=
  (x6 = (-1 : Int32) → post (c_count, f_points)) ∧ (¬ x6 = (-1 : Int32) → (x2 ≤ c_count → post (c_count, f_points)) ∧ (¬ x2 ≤ c_count → vp_in c_count n_points ∧ ∀ f57 : Nat → Int32, f57 = upd f_points c_count.toNatClampNeg x6 → ∀ v65 : Int32, v65 = (c_count + (1 : Int32)) → vp_in x6 n_rest ∧ ∀ x5_73 : Int32, x5_73 = (f_rest x6.toNatClampNeg) → ∃ Q89 : Int32 → Unit → Prop, wp_G_earliestThrough n_costs n_rest f_costs f_rest x6 x2 x5_73 Q89 ∧ ∀ (r89 : Int32), Q89 r89 () → back33b (r89, v65, f57)))
def wp_G_follow (n_points n_costs n_restByTwo n_rest : Nat) (c_count : Int32) (f_points : Nat → Int32) (f_costs : Nat → Int32) (f_restByTwo : Nat → Int32) (f_rest : Nat → Int32) (x1 : Int32) (x2 : Int32) (x3 : Int32) (post : (Int32 × (Nat → Int32)) → Prop) : Prop :=
  vp_in (0 : Int32) n_points ∧ ∀ f6 : Nat → Int32, f6 = upd f_points (0 : Int32).toNatClampNeg x1 → ∃ Q28 : Int32 → Unit → Prop, wp_G_earliestThrough n_costs n_restByTwo f_costs f_restByTwo x1 x2 x3 Q28 ∧ ∀ (r28 : Int32), Q28 r28 () → (r28 = (-1 : Int32) → post ((1 : Int32), f6)) ∧ (¬ r28 = (-1 : Int32) → (x2 ≤ (1 : Int32) → post ((1 : Int32), f6)) ∧ (¬ x2 ≤ (1 : Int32) → vp_in (1 : Int32) n_points ∧ ∀ f57 : Nat → Int32, f57 = upd f6 (1 : Int32).toNatClampNeg r28 → ∀ v65 : Int32, v65 = ((1 : Int32) + (1 : Int32)) → vp_in r28 n_restByTwo ∧ ∀ x5_73 : Int32, x5_73 = (f_restByTwo r28.toNatClampNeg) → ∃ Q89 : Int32 → Unit → Prop, wp_G_earliestThrough n_costs n_rest f_costs f_rest r28 x2 x5_73 Q89 ∧ ∀ (r89 : Int32), Q89 r89 () → lpW (fun b z => wp_G_follow_L33b n_points n_costs n_restByTwo n_rest f_costs f_restByTwo f_rest x2 post b z.1 z.2.1 z.2.2) (r89, v65, f57)))
abbrev cw_G_follow (cI : ClassId) (a_this a_points a_costs a_restByTwo a_rest a_outlines a_xs a_ys a_angles a_turns : Nat) (n_points n_costs n_restByTwo n_rest : Nat) (c_count : Int32) (c_cost : Int32) (f_points : Nat → Int32) (f_costs : Nat → Int32) (f_restByTwo : Nat → Int32) (f_rest : Nat → Int32) : va_W := [(a_this, .inr (3, [.ref a_outlines, .ref a_costs, .ref a_rest, .ref a_restByTwo, .ref a_points, .ref a_xs, .ref a_ys, .ref a_angles, .ref a_turns, .int c_count, .int c_cost])), (a_points, .inl (cI, n_points, .inl f_points)), (a_costs, .inl (cI, n_costs, .inl f_costs)), (a_restByTwo, .inl (cI, n_restByTwo, .inl f_restByTwo)), (a_rest, .inl (cI, n_rest, .inl f_rest))]
abbrev qq_G_follow (dC : Nat → ClassId) (dI : Nat → Nat → Nat) (cI cB cJ cZ : ClassId) (a_this a_points a_costs a_restByTwo a_rest a_outlines a_xs a_ys a_angles a_turns : Nat) (n_points n_costs n_restByTwo n_rest : Nat) (c_cost : Int32) (f_costs : Nat → Int32) (f_restByTwo : Nat → Int32) (f_rest : Nat → Int32) (A : Nat → Prop) (post : (Int32 × (Nat → Int32)) → Prop) : Array Value → State → Outcome → State → Prop := va_Qv post (fun u t => va_P (dC, dI) vwCl (cw_G_follow cI a_this a_points a_costs a_restByTwo a_rest a_outlines a_xs a_ys a_angles a_turns n_points n_costs n_restByTwo n_rest u.1 c_cost u.2 f_costs f_restByTwo f_rest) t.heap ∧ va_K (dC, dI) vwCl [(cI, .int), (cB, .byte), (cJ, .long), (cZ, .boolean)] t ∧ va_D A (cw_G_follow cI a_this a_points a_costs a_restByTwo a_rest a_outlines a_xs a_ys a_angles a_turns n_points n_costs n_restByTwo n_rest u.1 c_cost u.2 f_costs f_restByTwo f_rest)) A
set_option maxHeartbeats 4000000 in
set_option maxRecDepth 100000 in
theorem c_G_follow (l : Launch) (dC : Nat → ClassId) (dI : Nat → Nat → Nat) (cI cB cJ cZ : ClassId) (a_this a_points a_costs a_restByTwo a_rest a_outlines a_xs a_ys a_angles a_turns : Nat) (sz : Nat) (n_points n_costs n_restByTwo n_rest : Nat) (c_count : Int32) (c_cost : Int32) (f_points : Nat → Int32) (f_costs : Nat → Int32) (f_restByTwo : Nat → Int32) (f_rest : Nat → Int32) (x1 : Int32) (x2 : Int32) (x3 : Int32) (post : (Int32 × (Nat → Int32)) → Prop) (h : wp_G_follow n_points n_costs n_restByTwo n_rest c_count f_points f_costs f_restByTwo f_rest x1 x2 x3 post) : Met l y_G_follow w_G_follow ({ frames := 2, cells := 0, slots := 0, locals := 49 }) (va_Pc [.ref a_this, .int x1, .int x2, .int x3] (fun U => U.heap.size = sz ∧ va_P (dC, dI) vwCl (cw_G_follow cI a_this a_points a_costs a_restByTwo a_rest a_outlines a_xs a_ys a_angles a_turns n_points n_costs n_restByTwo n_rest c_count c_cost f_points f_costs f_restByTwo f_rest) U.heap ∧ va_K (dC, dI) vwCl [(cI, .int), (cB, .byte), (cJ, .long), (cZ, .boolean)] U ∧ va_D (fun _ => True) (cw_G_follow cI a_this a_points a_costs a_restByTwo a_rest a_outlines a_xs a_ys a_angles a_turns n_points n_costs n_restByTwo n_rest c_count c_cost f_points f_costs f_restByTwo f_rest))) (qq_G_follow dC dI cI cB cJ cZ a_this a_points a_costs a_restByTwo a_rest a_outlines a_xs a_ys a_angles a_turns n_points n_costs n_restByTwo n_rest c_cost f_costs f_restByTwo f_rest (va_A (cw_G_follow cI a_this a_points a_costs a_restByTwo a_rest a_outlines a_xs a_ys a_angles a_turns n_points n_costs n_restByTwo n_rest c_count c_cost f_points f_costs f_restByTwo f_rest) sz) post) 0 0 (va_A (cw_G_follow cI a_this a_points a_costs a_restByTwo a_rest a_outlines a_xs a_ys a_angles a_turns n_points n_costs n_restByTwo n_rest c_count c_cost f_points f_costs f_restByTwo f_rest) sz) := by
  refine Met.ofW (cc := b_G_follow) (maxL := 7) (ret := none) (by decide +kernel) rfl ?_
  intro p e s m args below meth c s₁ B hml hv
  obtain ⟨rfl, hsz, hP, hK, hD0⟩ := hv
  have hx := B.exec
  have hb := B.bytes
  have hr := B.returns
  have hts : ∀ w ∈ allW, w.before _ s = true := fun w hw => atoms_spec (ws := w_G_follow) B.pre w (List.mem_cons_of_mem _ hw)
  have hown : s.vm.findClass R_G = some m.cls := findClass_of_methodNamed B.named
  have hlocks := B.notSynchronized
  subst hsz
  have hD := hD0.self (sz := s.heap.size)
  generalize hAe : va_A (cw_G_follow cI a_this a_points a_costs a_restByTwo a_rest a_outlines a_xs a_ys a_angles a_turns n_points n_costs n_restByTwo n_rest c_count c_cost f_points f_costs f_restByTwo f_rest) s.heap.size = A at hD ⊢
  have hA : ∀ q : Nat, s.heap.size ≤ q → A q := fun q h => by rw [← hAe]; exact Or.inr h
  have hS : va_S A s.heap s.heap [] := va_S.rf
  clear hD0
  generalize hQf : MQ below (qq_G_follow dC dI cI cB cJ cZ a_this a_points a_costs a_restByTwo a_rest a_outlines a_xs a_ys a_angles a_turns n_points n_costs n_restByTwo n_rest c_cost f_costs f_restByTwo f_rest A post) ([.ref a_this, .int x1, .int x2, .int x3] : List Value).toArray s 0 0 A = Qf
  have hl := lv_entry ([.ref a_this, .int x1, .int x2, .int x3]) (n := 7) (Nat.le_of_ble_eq_true rfl)
  rw [lg_entry_eq]
  generalize (lg_sl ([.ref a_this, .int x1, .int x2, .int x3]) ++ List.replicate (7 - (lg_sl ([.ref a_this, .int x1, .int x2, .int x3])).length) Slot.unset).toArray = ls at hl ⊢
  have hl : lv_has ls 7 [(0, .ref a_this), (1, .int x1), (2, .int x2), (3, .int x3)] := hl
  unfold wp_G_follow at h
  refine lv_aload_n hx hb d_G_follow_0 rfl (lv_at hl 0 rfl) ?_
  refine va_get (D := (dC, dI)) (ci := 3) (v := .ref a_points) (C := R_G) (T := F_G) (N := 11) hx hb hts i_G_in hown hK hP 0 rfl rfl 4 (by decide) (hts _ q_111) (fun _ h9 => h9) rfl d_G_follow_1 ?_
  refine lv_iconst (v := 0) hx hb d_G_follow_4 (by decide) ?_
  refine lv_iload_n hx hb d_G_follow_5 rfl (lv_at hl 1 rfl) ?_
  obtain ⟨hin, h⟩ := h
  refine va_iast hx hb hK hP hD hS 1 0 rfl rfl hin d_G_follow_6 (fun H locs hP hD hS => ?_)
  obtain ⟨f6, e_f6⟩ : ∃ y : Nat → Int32, y = upd f_points (0 : Int32).toNatClampNeg x1 := ⟨_, rfl⟩
  have h := h f6 e_f6
  have hP : va_P (dC, dI) vwCl (cw_G_follow cI a_this a_points a_costs a_restByTwo a_rest a_outlines a_xs a_ys a_angles a_turns n_points n_costs n_restByTwo n_rest c_count c_cost f6 f_costs f_restByTwo f_rest) H := by rw [e_f6]; exact hP
  have hD : va_D A (cw_G_follow cI a_this a_points a_costs a_restByTwo a_rest a_outlines a_xs a_ys a_angles a_turns n_points n_costs n_restByTwo n_rest c_count c_cost f6 f_costs f_restByTwo f_rest) := by rw [e_f6]; exact hD
  refine lv_aload_n hx hb d_G_follow_7 rfl (lv_at hl 0 rfl) ?_
  refine lv_iconst (v := 1) hx hb d_G_follow_8 (by decide) ?_
  refine va_put (D := (dC, dI)) (ci := 3) (v := .int (1 : Int32)) (ty := .int) (C := R_G) (T := F_G) (N := 11) hx hb hts i_G_in t_G t_G_ok n_G_ne hown hK hP hD hS 0 rfl rfl 9 (by decide) (hts _ q_125) (fun _ h9 => h9) rfl (by decide +kernel) (by rfl) (by rfl) (Nat.le_of_ble_eq_true rfl) d_G_follow_9 (fun H locs hP hD hS => ?_)
  have hP : va_P (dC, dI) vwCl (cw_G_follow cI a_this a_points a_costs a_restByTwo a_rest a_outlines a_xs a_ys a_angles a_turns n_points n_costs n_restByTwo n_rest (1 : Int32) c_cost f6 f_costs f_restByTwo f_rest) H := hP
  have hD : va_D A (cw_G_follow cI a_this a_points a_costs a_restByTwo a_rest a_outlines a_xs a_ys a_angles a_turns n_points n_costs n_restByTwo n_rest (1 : Int32) c_cost f6 f_costs f_restByTwo f_rest) := hD
  refine lv_aload_n hx hb d_G_follow_12 rfl (lv_at hl 0 rfl) ?_
  refine va_get (D := (dC, dI)) (ci := 3) (v := .ref a_restByTwo) (C := R_G) (T := F_G) (N := 11) hx hb hts i_G_in hown hK hP 0 rfl rfl 3 (by decide) (hts _ q_110) (fun _ h9 => h9) rfl d_G_follow_13 ?_
  refine lv_astore (lv' := [(4, .ref a_restByTwo), (0, .ref a_this), (1, .int x1), (2, .int x2), (3, .int x3)]) hx hb d_G_follow_16 hl (by decide) rfl (fun ls hl => ?_)
  refine lv_iload_n hx hb d_G_follow_18 rfl (lv_at hl 4 rfl) ?_
  refine lv_istore (lv' := [(5, .int x3), (4, .ref a_restByTwo), (0, .ref a_this), (1, .int x1), (2, .int x2), (3, .int x3)]) hx hb d_G_follow_19 hl (by decide) rfl (fun ls hl => ?_)
  refine lv_aload_n hx hb d_G_follow_21 rfl (lv_at hl 2 rfl) ?_
  refine lv_aload hx hb d_G_follow_22 (lv_at hl 1 rfl) ?_
  refine lv_iload_n hx hb d_G_follow_24 rfl (lv_at hl 3 rfl) ?_
  refine lv_iload_n hx hb d_G_follow_25 rfl (lv_at hl 4 rfl) ?_
  refine lv_iload hx hb d_G_follow_26 (lv_at hl 0 rfl) ?_
  obtain ⟨Q28, hq28, h⟩ := h
  have hPc := hP.sub (ws' := (cw_G_earliestThrough cI a_this a_costs a_restByTwo a_outlines a_rest a_restByTwo a_points a_xs a_ys a_angles a_turns n_costs n_restByTwo (1 : Int32) c_cost f_costs f_restByTwo)) [0, 2, 3] rfl
  have hDc := hD.sub (ws' := (cw_G_earliestThrough cI a_this a_costs a_restByTwo a_outlines a_rest a_restByTwo a_points a_xs a_ys a_angles a_turns n_costs n_restByTwo (1 : Int32) c_cost f_costs f_restByTwo)) [0, 2, 3] (by decide) rfl
  have hFc := va_free (wc := (cw_G_earliestThrough cI a_this a_costs a_restByTwo a_outlines a_rest a_restByTwo a_points a_xs a_ys a_angles a_turns n_costs n_restByTwo (1 : Int32) c_cost f_costs f_restByTwo)) hD hS hA [0, 2, 3] rfl
  refine va_calli (va_runV (As := [.ref a_restByTwo, .int x1, .int x2, .int x3]) (rest := []) ⟨hx, hb, hml, hown, hts⟩ (c_G_earliestThrough l dC dI cI cB cJ cZ a_this a_costs a_restByTwo a_outlines a_rest a_restByTwo a_points a_xs a_ys a_angles a_turns H.size n_costs n_restByTwo (1 : Int32) c_cost f_costs f_restByTwo x1 x2 x3 Q28 hq28) (cwV 4 hts (goodV q_522 q_524 q_p17 q_5 q_525) rfl rfl rfl (by decide +kernel) ⟨Nat.le_of_ble_eq_true rfl, Nat.le_of_ble_eq_true rfl⟩) ⟨fun a U g mk q => by obtain ⟨q0, q1, qP, qK, qD⟩ := q; exact ⟨q0, q1, qP, va_K.moved (u := U) (U := U.calling g mk a) (Vm.Alike.refl U.vm) qK, qD⟩, va_recv hK hPc (ci := 3) (q0 := 0) rfl rfl, fun U hU hW => ⟨rfl, by rw [hU], by rw [hU]; exact hPc, va_K.moved hW.alike hK, hDc.weaken (fun _ _ _ _ => trivial)⟩⟩ rfl rfl hl.1 rfl (lv_room (Nat.le_of_ble_eq_true rfl)) d_G_follow_28 ⟨Nat.le_of_ble_eq_true rfl, Nat.le_of_ble_eq_true rfl⟩) hS (fun q _ h => hFc q h) hFc (fun r28 u28 t H1 locs ht hvm hw hB hz1 hk1 hS => ?_)
  cases u28
  obtain ⟨hP1, -, hD1⟩ := hB
  rw [ht] at hP1
  have h := h r28 hw
  obtain ⟨hP, hD⟩ := va_join (wr := [(a_points, .inl (cI, n_points, .inl f6)), (a_rest, .inl (cI, n_rest, .inl f_rest))]) (w1 := (cw_G_earliestThrough cI a_this a_costs a_restByTwo a_outlines a_rest a_restByTwo a_points a_xs a_ys a_angles a_turns n_costs n_restByTwo (1 : Int32) c_cost f_costs f_restByTwo)) hP hD [0, 2, 3] [1, 4] rfl rfl (by decide) (by decide) hk1 hFc hP1 hD1
  clear hP1 hD1 hk1 hPc hDc hFc
  generalize H1 = H at hP hS ⊢
  have hP : va_P (dC, dI) vwCl (cw_G_follow cI a_this a_points a_costs a_restByTwo a_rest a_outlines a_xs a_ys a_angles a_turns n_points n_costs n_restByTwo n_rest (1 : Int32) c_cost f6 f_costs f_restByTwo f_rest) H := hP.sub [2, 0, 3, 4, 1] rfl
  have hD : va_D A (cw_G_follow cI a_this a_points a_costs a_restByTwo a_rest a_outlines a_xs a_ys a_angles a_turns n_points n_costs n_restByTwo n_rest (1 : Int32) c_cost f6 f_costs f_restByTwo f_rest) := hD.sub [2, 0, 3, 4, 1] (by decide) rfl
  refine lv_istore (lv' := [(6, .int r28), (5, .int x3), (4, .ref a_restByTwo), (0, .ref a_this), (1, .int x1), (2, .int x2), (3, .int x3)]) hx hb d_G_follow_31 hl (by decide) rfl (fun ls hl => ?_)
  refine lv_iload hx hb d_G_follow_33 (lv_at hl 0 rfl) ?_
  refine lv_iconst (v := -1) hx hb d_G_follow_35 (by decide) ?_
  refine lv_icmp_eq (tgt := 97) hx hb d_G_follow_36 (by decide) (fun cc_ => ?_) (fun cc_ => ?_)
  · have h := h.1 cc_
    subst hQf
    exact W.vret hx hb hr (fun t ht hW => ⟨⟨((1 : Int32), f6), rfl, h, by rw [ht]; exact hP, va_K.moved hW.alike hK, hD⟩, hS.F ht⟩) hS.2.2 d_G_follow_97
  · have h := h.2 cc_
    refine lv_aload_n hx hb d_G_follow_39 rfl (lv_at hl 3 rfl) ?_
    refine va_get (D := (dC, dI)) (ci := 3) (v := .int (1 : Int32)) (C := R_G) (T := F_G) (N := 11) hx hb hts i_G_in hown hK hP 0 rfl rfl 9 (by decide) (hts _ q_125) (fun _ h9 => h9) rfl d_G_follow_40 ?_
    refine lv_iload_n hx hb d_G_follow_43 rfl (lv_at hl 5 rfl) ?_
    refine lv_icmp_ge (tgt := 97) hx hb d_G_follow_44 (by decide) (fun cc_ => ?_) (fun cc_ => ?_)
    · have h := h.1 cc_
      subst hQf
      exact W.vret hx hb hr (fun t ht hW => ⟨⟨((1 : Int32), f6), rfl, h, by rw [ht]; exact hP, va_K.moved hW.alike hK, hD⟩, hS.F ht⟩) hS.2.2 d_G_follow_97
    · have h := h.2 cc_
      refine lv_aload_n hx hb d_G_follow_47 rfl (lv_at hl 3 rfl) ?_
      refine va_get (D := (dC, dI)) (ci := 3) (v := .ref a_points) (C := R_G) (T := F_G) (N := 11) hx hb hts i_G_in hown hK hP 0 rfl rfl 4 (by decide) (hts _ q_111) (fun _ h9 => h9) rfl d_G_follow_48 ?_
      refine lv_aload_n hx hb d_G_follow_51 rfl (lv_at hl 3 rfl) ?_
      refine va_get (D := (dC, dI)) (ci := 3) (v := .int (1 : Int32)) (C := R_G) (T := F_G) (N := 11) hx hb hts i_G_in hown hK hP 0 rfl rfl 9 (by decide) (hts _ q_125) (fun _ h9 => h9) rfl d_G_follow_52 ?_
      refine lv_iload hx hb d_G_follow_55 (lv_at hl 0 rfl) ?_
      obtain ⟨hin, h⟩ := h
      refine va_iast hx hb hK hP hD hS 1 0 rfl rfl hin d_G_follow_57 (fun H locs hP hD hS => ?_)
      obtain ⟨f57, e_f57⟩ : ∃ y : Nat → Int32, y = upd f6 (1 : Int32).toNatClampNeg r28 := ⟨_, rfl⟩
      have h := h f57 e_f57
      have hP : va_P (dC, dI) vwCl (cw_G_follow cI a_this a_points a_costs a_restByTwo a_rest a_outlines a_xs a_ys a_angles a_turns n_points n_costs n_restByTwo n_rest (1 : Int32) c_cost f57 f_costs f_restByTwo f_rest) H := by rw [e_f57]; exact hP
      have hD : va_D A (cw_G_follow cI a_this a_points a_costs a_restByTwo a_rest a_outlines a_xs a_ys a_angles a_turns n_points n_costs n_restByTwo n_rest (1 : Int32) c_cost f57 f_costs f_restByTwo f_rest) := by rw [e_f57]; exact hD
      refine lv_aload_n hx hb d_G_follow_58 rfl (lv_at hl 3 rfl) ?_
      refine lv_dup hx hb d_G_follow_59 rfl ?_
      refine va_get (D := (dC, dI)) (ci := 3) (v := .int (1 : Int32)) (C := R_G) (T := F_G) (N := 11) hx hb hts i_G_in hown hK hP 0 rfl rfl 9 (by decide) (hts _ q_125) (fun _ h9 => h9) rfl d_G_follow_60 ?_
      refine lv_iconst (v := 1) hx hb d_G_follow_63 (by decide) ?_
      refine lv_iadd hx hb d_G_follow_64 ?_
      refine lv_topi (fun v65 e_v65 => ?_)
      have h := h v65 e_v65
      refine va_put (D := (dC, dI)) (ci := 3) (v := .int v65) (ty := .int) (C := R_G) (T := F_G) (N := 11) hx hb hts i_G_in t_G t_G_ok n_G_ne hown hK hP hD hS 0 rfl rfl 9 (by decide) (hts _ q_125) (fun _ h9 => h9) rfl (by decide +kernel) (by rfl) (by rfl) (Nat.le_of_ble_eq_true rfl) d_G_follow_65 (fun H locs hP hD hS => ?_)
      have hP : va_P (dC, dI) vwCl (cw_G_follow cI a_this a_points a_costs a_restByTwo a_rest a_outlines a_xs a_ys a_angles a_turns n_points n_costs n_restByTwo n_rest v65 c_cost f57 f_costs f_restByTwo f_rest) H := hP
      have hD : va_D A (cw_G_follow cI a_this a_points a_costs a_restByTwo a_rest a_outlines a_xs a_ys a_angles a_turns n_points n_costs n_restByTwo n_rest v65 c_cost f57 f_costs f_restByTwo f_rest) := hD
      refine lv_aload hx hb d_G_follow_68 (lv_at hl 2 rfl) ?_
      refine lv_iload hx hb d_G_follow_70 (lv_at hl 0 rfl) ?_
      obtain ⟨hin, h⟩ := h
      refine va_iald hx hb hK hP 3 0 rfl rfl hin d_G_follow_72 ?_
      refine lv_topi (fun x5_73 e_x5_73 => ?_)
      have h := h x5_73 e_x5_73
      refine lv_istore (lv' := [(5, .int x5_73), (6, .int r28), (4, .ref a_restByTwo), (0, .ref a_this), (1, .int x1), (2, .int x2), (3, .int x3)]) hx hb d_G_follow_73 hl (by decide) rfl (fun ls hl => ?_)
      refine lv_aload_n hx hb d_G_follow_75 rfl (lv_at hl 3 rfl) ?_
      refine va_get (D := (dC, dI)) (ci := 3) (v := .ref a_rest) (C := R_G) (T := F_G) (N := 11) hx hb hts i_G_in hown hK hP 0 rfl rfl 2 (by decide) (hts _ q_109) (fun _ h9 => h9) rfl d_G_follow_76 ?_
      refine lv_astore (lv' := [(4, .ref a_rest), (5, .int x5_73), (6, .int r28), (0, .ref a_this), (1, .int x1), (2, .int x2), (3, .int x3)]) hx hb d_G_follow_79 hl (by decide) rfl (fun ls hl => ?_)
      refine lv_aload_n hx hb d_G_follow_81 rfl (lv_at hl 3 rfl) ?_
      refine lv_aload hx hb d_G_follow_82 (lv_at hl 0 rfl) ?_
      refine lv_iload hx hb d_G_follow_84 (lv_at hl 2 rfl) ?_
      refine lv_iload_n hx hb d_G_follow_86 rfl (lv_at hl 5 rfl) ?_
      refine lv_iload hx hb d_G_follow_87 (lv_at hl 1 rfl) ?_
      obtain ⟨Q89, hq89, h⟩ := h
      have hPc := hP.sub (ws' := (cw_G_earliestThrough cI a_this a_costs a_rest a_outlines a_rest a_restByTwo a_points a_xs a_ys a_angles a_turns n_costs n_rest v65 c_cost f_costs f_rest)) [0, 2, 4] rfl
      have hDc := hD.sub (ws' := (cw_G_earliestThrough cI a_this a_costs a_rest a_outlines a_rest a_restByTwo a_points a_xs a_ys a_angles a_turns n_costs n_rest v65 c_cost f_costs f_rest)) [0, 2, 4] (by decide) rfl
      have hFc := va_free (wc := (cw_G_earliestThrough cI a_this a_costs a_rest a_outlines a_rest a_restByTwo a_points a_xs a_ys a_angles a_turns n_costs n_rest v65 c_cost f_costs f_rest)) hD hS hA [0, 2, 4] rfl
      refine va_calli (va_runV (As := [.ref a_rest, .int r28, .int x2, .int x5_73]) (rest := []) ⟨hx, hb, hml, hown, hts⟩ (c_G_earliestThrough l dC dI cI cB cJ cZ a_this a_costs a_rest a_outlines a_rest a_restByTwo a_points a_xs a_ys a_angles a_turns H.size n_costs n_rest v65 c_cost f_costs f_rest r28 x2 x5_73 Q89 hq89) (cwV 4 hts (goodV q_522 q_524 q_p17 q_5 q_525) rfl rfl rfl (by decide +kernel) ⟨Nat.le_of_ble_eq_true rfl, Nat.le_of_ble_eq_true rfl⟩) ⟨fun a U g mk q => by obtain ⟨q0, q1, qP, qK, qD⟩ := q; exact ⟨q0, q1, qP, va_K.moved (u := U) (U := U.calling g mk a) (Vm.Alike.refl U.vm) qK, qD⟩, va_recv hK hPc (ci := 3) (q0 := 0) rfl rfl, fun U hU hW => ⟨rfl, by rw [hU], by rw [hU]; exact hPc, va_K.moved hW.alike hK, hDc.weaken (fun _ _ _ _ => trivial)⟩⟩ rfl rfl hl.1 rfl (lv_room (Nat.le_of_ble_eq_true rfl)) d_G_follow_89 ⟨Nat.le_of_ble_eq_true rfl, Nat.le_of_ble_eq_true rfl⟩) hS (fun q _ h => hFc q h) hFc (fun r89 u89 t H1 locs ht hvm hw hB hz1 hk1 hS => ?_)
      cases u89
      obtain ⟨hP1, -, hD1⟩ := hB
      rw [ht] at hP1
      have h := h r89 hw
      obtain ⟨hP, hD⟩ := va_join (wr := [(a_points, .inl (cI, n_points, .inl f57)), (a_restByTwo, .inl (cI, n_restByTwo, .inl f_restByTwo))]) (w1 := (cw_G_earliestThrough cI a_this a_costs a_rest a_outlines a_rest a_restByTwo a_points a_xs a_ys a_angles a_turns n_costs n_rest v65 c_cost f_costs f_rest)) hP hD [0, 2, 4] [1, 3] rfl rfl (by decide) (by decide) hk1 hFc hP1 hD1
      clear hP1 hD1 hk1 hPc hDc hFc
      generalize H1 = H at hP hS ⊢
      have hP : va_P (dC, dI) vwCl (cw_G_follow cI a_this a_points a_costs a_restByTwo a_rest a_outlines a_xs a_ys a_angles a_turns n_points n_costs n_restByTwo n_rest v65 c_cost f57 f_costs f_restByTwo f_rest) H := hP.sub [2, 0, 3, 1, 4] rfl
      have hD : va_D A (cw_G_follow cI a_this a_points a_costs a_restByTwo a_rest a_outlines a_xs a_ys a_angles a_turns n_points n_costs n_restByTwo n_rest v65 c_cost f57 f_costs f_restByTwo f_rest) := hD.sub [2, 0, 3, 1, 4] (by decide) rfl
      refine lv_istore (lv' := [(6, .int r89), (4, .ref a_rest), (5, .int x5_73), (0, .ref a_this), (1, .int x1), (2, .int x2), (3, .int x3)]) hx hb d_G_follow_92 hl (by decide) rfl (fun ls hl => ?_)
      refine lv_goto (tgt := 33) hx hb d_G_follow_94 (by decide) ?_
      refine lpW_ind (Wp := fun z => ∀ (H : Heap) (locs : List Loc) (ls : Array Slot), va_P (dC, dI) vwCl (cw_G_follow cI a_this a_points a_costs a_restByTwo a_rest a_outlines a_xs a_ys a_angles a_turns n_points n_costs n_restByTwo n_rest z.2.1 c_cost z.2.2 f_costs f_restByTwo f_rest) H → va_D A (cw_G_follow cI a_this a_points a_costs a_restByTwo a_rest a_outlines a_xs a_ys a_angles a_turns n_points n_costs n_restByTwo n_rest z.2.1 c_cost z.2.2 f_costs f_restByTwo f_rest) → va_S A s.heap H locs → lv_has ls 7 [(0, .ref a_this), (2, .int x2), (4, .ref a_rest), (6, .int z.1)] → W p l e (headSpec w_G_follow ({ frames := 2, cells := 0, slots := 0, locals := 49 })).room s m ([.ref a_this, .int x1, .int x2, .int x3] : List Value).toArray below meth c H locs 0 0 Qf (F0 m 33 ls [])) h ?_ _ _ _ hP hD hS (lv_sub hl [3, 5, 1, 0] rfl)
      rintro ⟨x6_l33b, c_count_l33b, f_points_l33b⟩ back33b h hb33b H locs ls hP hD hS hl
      have h : wp_G_follow_L33b n_points n_costs n_restByTwo n_rest f_costs f_restByTwo f_rest x2 post back33b x6_l33b c_count_l33b f_points_l33b := h
      have hP : va_P (dC, dI) vwCl (cw_G_follow cI a_this a_points a_costs a_restByTwo a_rest a_outlines a_xs a_ys a_angles a_turns n_points n_costs n_restByTwo n_rest c_count_l33b c_cost f_points_l33b f_costs f_restByTwo f_rest) H := hP
      have hD : va_D A (cw_G_follow cI a_this a_points a_costs a_restByTwo a_rest a_outlines a_xs a_ys a_angles a_turns n_points n_costs n_restByTwo n_rest c_count_l33b c_cost f_points_l33b f_costs f_restByTwo f_rest) := hD
      have hl : lv_has ls 7 [(0, .ref a_this), (2, .int x2), (4, .ref a_rest), (6, .int x6_l33b)] := hl
      unfold wp_G_follow_L33b at h
      refine lv_iload hx hb d_G_follow_33 (lv_at hl 3 rfl) ?_
      refine lv_iconst (v := -1) hx hb d_G_follow_35 (by decide) ?_
      refine lv_icmp_eq (tgt := 97) hx hb d_G_follow_36 (by decide) (fun cc_ => ?_) (fun cc_ => ?_)
      · have h := h.1 cc_
        subst hQf
        exact W.vret hx hb hr (fun t ht hW => ⟨⟨(c_count_l33b, f_points_l33b), rfl, h, by rw [ht]; exact hP, va_K.moved hW.alike hK, hD⟩, hS.F ht⟩) hS.2.2 d_G_follow_97
      · have h := h.2 cc_
        refine lv_aload_n hx hb d_G_follow_39 rfl (lv_at hl 0 rfl) ?_
        refine va_get (D := (dC, dI)) (ci := 3) (v := .int c_count_l33b) (C := R_G) (T := F_G) (N := 11) hx hb hts i_G_in hown hK hP 0 rfl rfl 9 (by decide) (hts _ q_125) (fun _ h9 => h9) rfl d_G_follow_40 ?_
        refine lv_iload_n hx hb d_G_follow_43 rfl (lv_at hl 1 rfl) ?_
        refine lv_icmp_ge (tgt := 97) hx hb d_G_follow_44 (by decide) (fun cc_ => ?_) (fun cc_ => ?_)
        · have h := h.1 cc_
          subst hQf
          exact W.vret hx hb hr (fun t ht hW => ⟨⟨(c_count_l33b, f_points_l33b), rfl, h, by rw [ht]; exact hP, va_K.moved hW.alike hK, hD⟩, hS.F ht⟩) hS.2.2 d_G_follow_97
        · have h := h.2 cc_
          refine lv_aload_n hx hb d_G_follow_47 rfl (lv_at hl 0 rfl) ?_
          refine va_get (D := (dC, dI)) (ci := 3) (v := .ref a_points) (C := R_G) (T := F_G) (N := 11) hx hb hts i_G_in hown hK hP 0 rfl rfl 4 (by decide) (hts _ q_111) (fun _ h9 => h9) rfl d_G_follow_48 ?_
          refine lv_aload_n hx hb d_G_follow_51 rfl (lv_at hl 0 rfl) ?_
          refine va_get (D := (dC, dI)) (ci := 3) (v := .int c_count_l33b) (C := R_G) (T := F_G) (N := 11) hx hb hts i_G_in hown hK hP 0 rfl rfl 9 (by decide) (hts _ q_125) (fun _ h9 => h9) rfl d_G_follow_52 ?_
          refine lv_iload hx hb d_G_follow_55 (lv_at hl 3 rfl) ?_
          obtain ⟨hin, h⟩ := h
          refine va_iast hx hb hK hP hD hS 1 0 rfl rfl hin d_G_follow_57 (fun H locs hP hD hS => ?_)
          obtain ⟨f57, e_f57⟩ : ∃ y : Nat → Int32, y = upd f_points_l33b c_count_l33b.toNatClampNeg x6_l33b := ⟨_, rfl⟩
          have h := h f57 e_f57
          have hP : va_P (dC, dI) vwCl (cw_G_follow cI a_this a_points a_costs a_restByTwo a_rest a_outlines a_xs a_ys a_angles a_turns n_points n_costs n_restByTwo n_rest c_count_l33b c_cost f57 f_costs f_restByTwo f_rest) H := by rw [e_f57]; exact hP
          have hD : va_D A (cw_G_follow cI a_this a_points a_costs a_restByTwo a_rest a_outlines a_xs a_ys a_angles a_turns n_points n_costs n_restByTwo n_rest c_count_l33b c_cost f57 f_costs f_restByTwo f_rest) := by rw [e_f57]; exact hD
          refine lv_aload_n hx hb d_G_follow_58 rfl (lv_at hl 0 rfl) ?_
          refine lv_dup hx hb d_G_follow_59 rfl ?_
          refine va_get (D := (dC, dI)) (ci := 3) (v := .int c_count_l33b) (C := R_G) (T := F_G) (N := 11) hx hb hts i_G_in hown hK hP 0 rfl rfl 9 (by decide) (hts _ q_125) (fun _ h9 => h9) rfl d_G_follow_60 ?_
          refine lv_iconst (v := 1) hx hb d_G_follow_63 (by decide) ?_
          refine lv_iadd hx hb d_G_follow_64 ?_
          refine lv_topi (fun v65 e_v65 => ?_)
          have h := h v65 e_v65
          refine va_put (D := (dC, dI)) (ci := 3) (v := .int v65) (ty := .int) (C := R_G) (T := F_G) (N := 11) hx hb hts i_G_in t_G t_G_ok n_G_ne hown hK hP hD hS 0 rfl rfl 9 (by decide) (hts _ q_125) (fun _ h9 => h9) rfl (by decide +kernel) (by rfl) (by rfl) (Nat.le_of_ble_eq_true rfl) d_G_follow_65 (fun H locs hP hD hS => ?_)
          have hP : va_P (dC, dI) vwCl (cw_G_follow cI a_this a_points a_costs a_restByTwo a_rest a_outlines a_xs a_ys a_angles a_turns n_points n_costs n_restByTwo n_rest v65 c_cost f57 f_costs f_restByTwo f_rest) H := hP
          have hD : va_D A (cw_G_follow cI a_this a_points a_costs a_restByTwo a_rest a_outlines a_xs a_ys a_angles a_turns n_points n_costs n_restByTwo n_rest v65 c_cost f57 f_costs f_restByTwo f_rest) := hD
          refine lv_aload hx hb d_G_follow_68 (lv_at hl 2 rfl) ?_
          refine lv_iload hx hb d_G_follow_70 (lv_at hl 3 rfl) ?_
          obtain ⟨hin, h⟩ := h
          refine va_iald hx hb hK hP 4 0 rfl rfl hin d_G_follow_72 ?_
          refine lv_topi (fun x5_73 e_x5_73 => ?_)
          have h := h x5_73 e_x5_73
          refine lv_istore (lv' := [(5, .int x5_73), (0, .ref a_this), (2, .int x2), (4, .ref a_rest), (6, .int x6_l33b)]) hx hb d_G_follow_73 hl (by decide) rfl (fun ls hl => ?_)
          refine lv_aload_n hx hb d_G_follow_75 rfl (lv_at hl 1 rfl) ?_
          refine va_get (D := (dC, dI)) (ci := 3) (v := .ref a_rest) (C := R_G) (T := F_G) (N := 11) hx hb hts i_G_in hown hK hP 0 rfl rfl 2 (by decide) (hts _ q_109) (fun _ h9 => h9) rfl d_G_follow_76 ?_
          refine lv_astore (lv' := [(4, .ref a_rest), (5, .int x5_73), (0, .ref a_this), (2, .int x2), (6, .int x6_l33b)]) hx hb d_G_follow_79 hl (by decide) rfl (fun ls hl => ?_)
          refine lv_aload_n hx hb d_G_follow_81 rfl (lv_at hl 2 rfl) ?_
          refine lv_aload hx hb d_G_follow_82 (lv_at hl 0 rfl) ?_
          refine lv_iload hx hb d_G_follow_84 (lv_at hl 4 rfl) ?_
          refine lv_iload_n hx hb d_G_follow_86 rfl (lv_at hl 3 rfl) ?_
          refine lv_iload hx hb d_G_follow_87 (lv_at hl 1 rfl) ?_
          obtain ⟨Q89, hq89, h⟩ := h
          have hPc := hP.sub (ws' := (cw_G_earliestThrough cI a_this a_costs a_rest a_outlines a_rest a_restByTwo a_points a_xs a_ys a_angles a_turns n_costs n_rest v65 c_cost f_costs f_rest)) [0, 2, 4] rfl
          have hDc := hD.sub (ws' := (cw_G_earliestThrough cI a_this a_costs a_rest a_outlines a_rest a_restByTwo a_points a_xs a_ys a_angles a_turns n_costs n_rest v65 c_cost f_costs f_rest)) [0, 2, 4] (by decide) rfl
          have hFc := va_free (wc := (cw_G_earliestThrough cI a_this a_costs a_rest a_outlines a_rest a_restByTwo a_points a_xs a_ys a_angles a_turns n_costs n_rest v65 c_cost f_costs f_rest)) hD hS hA [0, 2, 4] rfl
          refine va_calli (va_runV (As := [.ref a_rest, .int x6_l33b, .int x2, .int x5_73]) (rest := []) ⟨hx, hb, hml, hown, hts⟩ (c_G_earliestThrough l dC dI cI cB cJ cZ a_this a_costs a_rest a_outlines a_rest a_restByTwo a_points a_xs a_ys a_angles a_turns H.size n_costs n_rest v65 c_cost f_costs f_rest x6_l33b x2 x5_73 Q89 hq89) (cwV 4 hts (goodV q_522 q_524 q_p17 q_5 q_525) rfl rfl rfl (by decide +kernel) ⟨Nat.le_of_ble_eq_true rfl, Nat.le_of_ble_eq_true rfl⟩) ⟨fun a U g mk q => by obtain ⟨q0, q1, qP, qK, qD⟩ := q; exact ⟨q0, q1, qP, va_K.moved (u := U) (U := U.calling g mk a) (Vm.Alike.refl U.vm) qK, qD⟩, va_recv hK hPc (ci := 3) (q0 := 0) rfl rfl, fun U hU hW => ⟨rfl, by rw [hU], by rw [hU]; exact hPc, va_K.moved hW.alike hK, hDc.weaken (fun _ _ _ _ => trivial)⟩⟩ rfl rfl hl.1 rfl (lv_room (Nat.le_of_ble_eq_true rfl)) d_G_follow_89 ⟨Nat.le_of_ble_eq_true rfl, Nat.le_of_ble_eq_true rfl⟩) hS (fun q _ h => hFc q h) hFc (fun r89 u89 t H1 locs ht hvm hw hB hz1 hk1 hS => ?_)
          cases u89
          obtain ⟨hP1, -, hD1⟩ := hB
          rw [ht] at hP1
          have h := h r89 hw
          obtain ⟨hP, hD⟩ := va_join (wr := [(a_points, .inl (cI, n_points, .inl f57)), (a_restByTwo, .inl (cI, n_restByTwo, .inl f_restByTwo))]) (w1 := (cw_G_earliestThrough cI a_this a_costs a_rest a_outlines a_rest a_restByTwo a_points a_xs a_ys a_angles a_turns n_costs n_rest v65 c_cost f_costs f_rest)) hP hD [0, 2, 4] [1, 3] rfl rfl (by decide) (by decide) hk1 hFc hP1 hD1
          clear hP1 hD1 hk1 hPc hDc hFc
          generalize H1 = H at hP hS ⊢
          have hP : va_P (dC, dI) vwCl (cw_G_follow cI a_this a_points a_costs a_restByTwo a_rest a_outlines a_xs a_ys a_angles a_turns n_points n_costs n_restByTwo n_rest v65 c_cost f57 f_costs f_restByTwo f_rest) H := hP.sub [2, 0, 3, 1, 4] rfl
          have hD : va_D A (cw_G_follow cI a_this a_points a_costs a_restByTwo a_rest a_outlines a_xs a_ys a_angles a_turns n_points n_costs n_restByTwo n_rest v65 c_cost f57 f_costs f_restByTwo f_rest) := hD.sub [2, 0, 3, 1, 4] (by decide) rfl
          refine lv_istore (lv' := [(6, .int r89), (4, .ref a_rest), (5, .int x5_73), (0, .ref a_this), (2, .int x2)]) hx hb d_G_follow_92 hl (by decide) rfl (fun ls hl => ?_)
          refine lv_goto (tgt := 33) hx hb d_G_follow_94 (by decide) ?_
          exact hb33b _ h _ _ _ hP hD hS (lv_sub hl [3, 4, 1, 0] rfl)
def wp_G_cornerBeside (c_count : Int32) (x1 : Int32) (x2 : Int32) (post : Int32 → Unit → Prop) : Prop :=
  ((1 : Int32) ≤ c_count → ∃ Q19 : Int32 → Unit → Prop, wp_Jm_floorMod (x1 + x2) c_count Q19 ∧ ∀ (r19 : Int32), Q19 r19 () → post r19 ()) ∧ (¬ (1 : Int32) ≤ c_count → post (0 : Int32) ())
abbrev cw_G_cornerBeside (a_this a_outlines a_costs a_rest a_restByTwo a_points a_xs a_ys a_angles a_turns : Nat) (c_count : Int32) (c_cost : Int32) : va_W := [(a_this, .inr (3, [.ref a_outlines, .ref a_costs, .ref a_rest, .ref a_restByTwo, .ref a_points, .ref a_xs, .ref a_ys, .ref a_angles, .ref a_turns, .int c_count, .int c_cost]))]
abbrev qq_G_cornerBeside (dC : Nat → ClassId) (dI : Nat → Nat → Nat) (cI cB cJ cZ : ClassId) (a_this a_outlines a_costs a_rest a_restByTwo a_points a_xs a_ys a_angles a_turns : Nat) (c_count : Int32) (c_cost : Int32) (A : Nat → Prop) (post : Int32 → Unit → Prop) : Array Value → State → Outcome → State → Prop := va_Qi post (fun _ t => va_P (dC, dI) vwCl (cw_G_cornerBeside a_this a_outlines a_costs a_rest a_restByTwo a_points a_xs a_ys a_angles a_turns c_count c_cost) t.heap ∧ va_K (dC, dI) vwCl [(cI, .int), (cB, .byte), (cJ, .long), (cZ, .boolean)] t ∧ va_D A (cw_G_cornerBeside a_this a_outlines a_costs a_rest a_restByTwo a_points a_xs a_ys a_angles a_turns c_count c_cost)) A
set_option maxHeartbeats 4000000 in
set_option maxRecDepth 100000 in
theorem c_G_cornerBeside (l : Launch) (dC : Nat → ClassId) (dI : Nat → Nat → Nat) (cI cB cJ cZ : ClassId) (a_this a_outlines a_costs a_rest a_restByTwo a_points a_xs a_ys a_angles a_turns : Nat) (sz : Nat) (c_count : Int32) (c_cost : Int32) (x1 : Int32) (x2 : Int32) (post : Int32 → Unit → Prop) (h : wp_G_cornerBeside c_count x1 x2 post) : Met l y_G_cornerBeside w_G_cornerBeside ({ frames := 1, cells := 0, slots := 0, locals := 22 }) (va_Pc [.ref a_this, .int x1, .int x2] (fun U => U.heap.size = sz ∧ va_P (dC, dI) vwCl (cw_G_cornerBeside a_this a_outlines a_costs a_rest a_restByTwo a_points a_xs a_ys a_angles a_turns c_count c_cost) U.heap ∧ va_K (dC, dI) vwCl [(cI, .int), (cB, .byte), (cJ, .long), (cZ, .boolean)] U ∧ va_D (fun _ => True) (cw_G_cornerBeside a_this a_outlines a_costs a_rest a_restByTwo a_points a_xs a_ys a_angles a_turns c_count c_cost))) (qq_G_cornerBeside dC dI cI cB cJ cZ a_this a_outlines a_costs a_rest a_restByTwo a_points a_xs a_ys a_angles a_turns c_count c_cost (va_A (cw_G_cornerBeside a_this a_outlines a_costs a_rest a_restByTwo a_points a_xs a_ys a_angles a_turns c_count c_cost) sz) post) 0 0 (va_A (cw_G_cornerBeside a_this a_outlines a_costs a_rest a_restByTwo a_points a_xs a_ys a_angles a_turns c_count c_cost) sz) := by
  refine Met.ofW (cc := b_G_cornerBeside) (maxL := 3) (ret := (some .int)) (by decide +kernel) rfl ?_
  intro p e s m args below meth c s₁ B hml hv
  obtain ⟨rfl, hsz, hP, hK, hD0⟩ := hv
  have hx := B.exec
  have hb := B.bytes
  have hr := B.returns
  have hts : ∀ w ∈ allW, w.before _ s = true := fun w hw => atoms_spec (ws := w_G_cornerBeside) B.pre w (List.mem_cons_of_mem _ hw)
  have hown : s.vm.findClass R_G = some m.cls := findClass_of_methodNamed B.named
  have hlocks := B.notSynchronized
  subst hsz
  have hD := hD0.self (sz := s.heap.size)
  generalize hAe : va_A (cw_G_cornerBeside a_this a_outlines a_costs a_rest a_restByTwo a_points a_xs a_ys a_angles a_turns c_count c_cost) s.heap.size = A at hD ⊢
  have hA : ∀ q : Nat, s.heap.size ≤ q → A q := fun q h => by rw [← hAe]; exact Or.inr h
  have hS : va_S A s.heap s.heap [] := va_S.rf
  clear hD0
  generalize hQf : MQ below (qq_G_cornerBeside dC dI cI cB cJ cZ a_this a_outlines a_costs a_rest a_restByTwo a_points a_xs a_ys a_angles a_turns c_count c_cost A post) ([.ref a_this, .int x1, .int x2] : List Value).toArray s 0 0 A = Qf
  have hl := lv_entry ([.ref a_this, .int x1, .int x2]) (n := 3) (Nat.le_of_ble_eq_true rfl)
  rw [lg_entry_eq]
  generalize (lg_sl ([.ref a_this, .int x1, .int x2]) ++ List.replicate (3 - (lg_sl ([.ref a_this, .int x1, .int x2])).length) Slot.unset).toArray = ls at hl ⊢
  have hl : lv_has ls 3 [(0, .ref a_this), (1, .int x1), (2, .int x2)] := hl
  unfold wp_G_cornerBeside at h
  refine lv_aload_n hx hb d_G_cornerBeside_0 rfl (lv_at hl 0 rfl) ?_
  refine va_get (D := (dC, dI)) (ci := 3) (v := .int c_count) (C := R_G) (T := F_G) (N := 11) hx hb hts i_G_in hown hK hP 0 rfl rfl 9 (by decide) (hts _ q_125) (fun _ h9 => h9) rfl d_G_cornerBeside_1 ?_
  refine lv_iconst (v := 1) hx hb d_G_cornerBeside_4 (by decide) ?_
  refine lv_icmp_ge (tgt := 12) hx hb d_G_cornerBeside_5 (by decide) (fun cc_ => ?_) (fun cc_ => ?_)
  · have h := h.1 cc_
    refine lv_iload_n hx hb d_G_cornerBeside_12 rfl (lv_at hl 1 rfl) ?_
    refine lv_iload_n hx hb d_G_cornerBeside_13 rfl (lv_at hl 2 rfl) ?_
    refine lv_iadd hx hb d_G_cornerBeside_14 ?_
    refine lv_aload_n hx hb d_G_cornerBeside_15 rfl (lv_at hl 0 rfl) ?_
    refine va_get (D := (dC, dI)) (ci := 3) (v := .int c_count) (C := R_G) (T := F_G) (N := 11) hx hb hts i_G_in hown hK hP 0 rfl rfl 9 (by decide) (hts _ q_125) (fun _ h9 => h9) rfl d_G_cornerBeside_16 ?_
    obtain ⟨Q19, hq19, h⟩ := h
    have hPc := hP.sub (ws' := (cw_Jm_floorMod)) [] rfl
    have hDc := hD.sub (ws' := (cw_Jm_floorMod)) [] (by decide) rfl
    have hFc := va_free (wc := (cw_Jm_floorMod)) hD hS hA [] rfl
    refine va_calli (va_runS (As := [.int (x1 + x2), .int c_count]) (rest := []) ⟨hx, hb, hml, hown, hts⟩ (c_Jm_floorMod l dC dI cI cB cJ cZ s.heap.size (x1 + x2) c_count Q19 hq19) (va_cwS 2 hts (goodS q_538 q_539 q_3 q_540) rfl rfl rfl (by decide +kernel) ⟨Nat.le_of_ble_eq_true rfl, Nat.le_of_ble_eq_true rfl⟩) ⟨fun a U g mk q => by obtain ⟨q0, q1, qP, qK, qD⟩ := q; exact ⟨q0, q1, qP, va_K.moved (u := U) (U := U.calling g mk a) (Vm.Alike.refl U.vm) qK, qD⟩, fun U hU hW => ⟨rfl, by rw [hU], by rw [hU]; exact hPc, va_K.moved hW.alike hK, hDc.weaken (fun _ _ _ _ => trivial)⟩⟩ rfl rfl hl.1 rfl (lv_room (Nat.le_of_ble_eq_true rfl)) d_G_cornerBeside_19 ⟨Nat.le_of_ble_eq_true rfl, Nat.le_of_ble_eq_true rfl⟩) hS (fun q _ h => hFc q h) hFc (fun r19 u19 t H1 locs ht hvm hw hB hz1 hk1 hS => ?_)
    cases u19
    obtain ⟨hP1, -, hD1⟩ := hB
    rw [ht] at hP1
    have h := h r19 hw
    obtain ⟨hP, hD⟩ := va_join (wr := [(a_this, .inr (3, [.ref a_outlines, .ref a_costs, .ref a_rest, .ref a_restByTwo, .ref a_points, .ref a_xs, .ref a_ys, .ref a_angles, .ref a_turns, .int c_count, .int c_cost]))]) (w1 := (cw_Jm_floorMod)) hP hD [] [0] rfl rfl (by decide) (by decide) hk1 hFc hP1 hD1
    clear hP1 hD1 hk1 hPc hDc hFc
    generalize H1 = H at hP hS ⊢
    have hP : va_P (dC, dI) vwCl (cw_G_cornerBeside a_this a_outlines a_costs a_rest a_restByTwo a_points a_xs a_ys a_angles a_turns c_count c_cost) H := hP.sub [0] rfl
    have hD : va_D A (cw_G_cornerBeside a_this a_outlines a_costs a_rest a_restByTwo a_points a_xs a_ys a_angles a_turns c_count c_cost) := hD.sub [0] (by decide) rfl
    subst hQf
    exact W.iret (v := r19) hx hb hr (fun t ht hW => ⟨⟨r19, (), rfl, h, by rw [ht]; exact hP, va_K.moved hW.alike hK, hD⟩, hS.F ht⟩) hS.2.2 d_G_cornerBeside_22
  · have h := h.2 cc_
    refine lv_iconst (v := 0) hx hb d_G_cornerBeside_8 (by decide) ?_
    refine lv_goto (tgt := 22) hx hb d_G_cornerBeside_9 (by decide) ?_
    subst hQf
    exact W.iret (v := (0 : Int32)) hx hb hr (fun t ht hW => ⟨⟨(0 : Int32), (), rfl, h, by rw [ht]; exact hP, va_K.moved hW.alike hK, hD⟩, hS.F ht⟩) hS.2.2 d_G_cornerBeside_22
def wp_G_measureCorner_J131 (n_xs n_ys n_angles n_turns : Nat) (c_count : Int32) (f_xs : Nat → Int32) (f_ys : Nat → Int32) (f_angles : Nat → Int32) (f_turns : Nat → Int32) (x1 : Int32) (x9 : Int32) (y0 : Int32) (y1 : Int32) (post : ((Nat → Int32) × (Nat → Int32)) → Prop) : Prop :=
  vp_in y1 n_angles ∧ ∀ f131 : Nat → Int32, f131 = upd f_angles y1.toNatClampNeg y0 → ∃ Q140 : Int32 → Unit → Prop, wp_Ji_compare x9 (0 : Int32) Q140 ∧ ∀ (r140 : Int32), Q140 r140 () → vp_in x1 n_turns ∧ ∀ f143 : Nat → Int32, f143 = upd f_turns x1.toNatClampNeg r140 → post (f131, f143)
def wp_G_measureCorner (n_xs n_ys n_angles n_turns : Nat) (c_count : Int32) (f_xs : Nat → Int32) (f_ys : Nat → Int32) (f_angles : Nat → Int32) (f_turns : Nat → Int32) (x1 : Int32) (post : ((Nat → Int32) × (Nat → Int32)) → Prop) : Prop :=
  ∃ Q3 : Int32 → Unit → Prop, wp_G_cornerBeside c_count x1 (-1 : Int32) Q3 ∧ ∀ (r3 : Int32), Q3 r3 () → ∃ Q10 : Int32 → Unit → Prop, wp_G_cornerBeside c_count x1 (1 : Int32) Q10 ∧ ∀ (r10 : Int32), Q10 r10 () → vp_in x1 n_xs ∧ vp_in r3 n_xs ∧ ∀ x4_27 : Int32, x4_27 = ((f_xs x1.toNatClampNeg) - (f_xs r3.toNatClampNeg)) → vp_in x1 n_ys ∧ vp_in r3 n_ys ∧ ∀ x5_42 : Int32, x5_42 = ((f_ys x1.toNatClampNeg) - (f_ys r3.toNatClampNeg)) → vp_in r10 n_xs ∧ vp_in x1 n_xs ∧ ∀ x6_57 : Int32, x6_57 = ((f_xs r10.toNatClampNeg) - (f_xs x1.toNatClampNeg)) → vp_in r10 n_ys ∧ vp_in x1 n_ys ∧ ∀ x7_72 : Int32, x7_72 = ((f_ys r10.toNatClampNeg) - (f_ys x1.toNatClampNeg)) → ∀ x8_85 : Int32, x8_85 = ((x4_27 * x6_57) + (x5_42 * x7_72)) → ∀ x9_98 : Int32, x9_98 = ((x4_27 * x7_72) - (x5_42 * x6_57)) → (0 < x8_85 → ¬ x8_85 = 0 ∧ wp_G_measureCorner_J131 n_xs n_ys n_angles n_turns c_count f_xs f_ys f_angles f_turns x1 x9_98 (jmin (63 : Int32) (((16 : Int32) * (jabs x9_98)) / x8_85)) x1 post) ∧ (¬ 0 < x8_85 → wp_G_measureCorner_J131 n_xs n_ys n_angles n_turns c_count f_xs f_ys f_angles f_turns x1 x9_98 (64 : Int32) x1 post)
abbrev cw_G_measureCorner (cI : ClassId) (a_this a_xs a_ys a_angles a_turns a_outlines a_costs a_rest a_restByTwo a_points : Nat) (n_xs n_ys n_angles n_turns : Nat) (c_count : Int32) (c_cost : Int32) (f_xs : Nat → Int32) (f_ys : Nat → Int32) (f_angles : Nat → Int32) (f_turns : Nat → Int32) : va_W := [(a_this, .inr (3, [.ref a_outlines, .ref a_costs, .ref a_rest, .ref a_restByTwo, .ref a_points, .ref a_xs, .ref a_ys, .ref a_angles, .ref a_turns, .int c_count, .int c_cost])), (a_xs, .inl (cI, n_xs, .inl f_xs)), (a_ys, .inl (cI, n_ys, .inl f_ys)), (a_angles, .inl (cI, n_angles, .inl f_angles)), (a_turns, .inl (cI, n_turns, .inl f_turns))]
abbrev qq_G_measureCorner (dC : Nat → ClassId) (dI : Nat → Nat → Nat) (cI cB cJ cZ : ClassId) (a_this a_xs a_ys a_angles a_turns a_outlines a_costs a_rest a_restByTwo a_points : Nat) (n_xs n_ys n_angles n_turns : Nat) (c_count : Int32) (c_cost : Int32) (f_xs : Nat → Int32) (f_ys : Nat → Int32) (A : Nat → Prop) (post : ((Nat → Int32) × (Nat → Int32)) → Prop) : Array Value → State → Outcome → State → Prop := va_Qv post (fun u t => va_P (dC, dI) vwCl (cw_G_measureCorner cI a_this a_xs a_ys a_angles a_turns a_outlines a_costs a_rest a_restByTwo a_points n_xs n_ys n_angles n_turns c_count c_cost f_xs f_ys u.1 u.2) t.heap ∧ va_K (dC, dI) vwCl [(cI, .int), (cB, .byte), (cJ, .long), (cZ, .boolean)] t ∧ va_D A (cw_G_measureCorner cI a_this a_xs a_ys a_angles a_turns a_outlines a_costs a_rest a_restByTwo a_points n_xs n_ys n_angles n_turns c_count c_cost f_xs f_ys u.1 u.2)) A
set_option maxHeartbeats 4000000 in
set_option maxRecDepth 100000 in
theorem c_G_measureCorner (l : Launch) (dC : Nat → ClassId) (dI : Nat → Nat → Nat) (cI cB cJ cZ : ClassId) (a_this a_xs a_ys a_angles a_turns a_outlines a_costs a_rest a_restByTwo a_points : Nat) (sz : Nat) (n_xs n_ys n_angles n_turns : Nat) (c_count : Int32) (c_cost : Int32) (f_xs : Nat → Int32) (f_ys : Nat → Int32) (f_angles : Nat → Int32) (f_turns : Nat → Int32) (x1 : Int32) (post : ((Nat → Int32) × (Nat → Int32)) → Prop) (h : wp_G_measureCorner n_xs n_ys n_angles n_turns c_count f_xs f_ys f_angles f_turns x1 post) : Met l y_G_measureCorner w_G_measureCorner ({ frames := 2, cells := 0, slots := 0, locals := 44 }) (va_Pc [.ref a_this, .int x1] (fun U => U.heap.size = sz ∧ va_P (dC, dI) vwCl (cw_G_measureCorner cI a_this a_xs a_ys a_angles a_turns a_outlines a_costs a_rest a_restByTwo a_points n_xs n_ys n_angles n_turns c_count c_cost f_xs f_ys f_angles f_turns) U.heap ∧ va_K (dC, dI) vwCl [(cI, .int), (cB, .byte), (cJ, .long), (cZ, .boolean)] U ∧ va_D (fun _ => True) (cw_G_measureCorner cI a_this a_xs a_ys a_angles a_turns a_outlines a_costs a_rest a_restByTwo a_points n_xs n_ys n_angles n_turns c_count c_cost f_xs f_ys f_angles f_turns))) (qq_G_measureCorner dC dI cI cB cJ cZ a_this a_xs a_ys a_angles a_turns a_outlines a_costs a_rest a_restByTwo a_points n_xs n_ys n_angles n_turns c_count c_cost f_xs f_ys (va_A (cw_G_measureCorner cI a_this a_xs a_ys a_angles a_turns a_outlines a_costs a_rest a_restByTwo a_points n_xs n_ys n_angles n_turns c_count c_cost f_xs f_ys f_angles f_turns) sz) post) 0 0 (va_A (cw_G_measureCorner cI a_this a_xs a_ys a_angles a_turns a_outlines a_costs a_rest a_restByTwo a_points n_xs n_ys n_angles n_turns c_count c_cost f_xs f_ys f_angles f_turns) sz) := by
  refine Met.ofW (cc := b_G_measureCorner) (maxL := 10) (ret := none) (by decide +kernel) rfl ?_
  intro p e s m args below meth c s₁ B hml hv
  obtain ⟨rfl, hsz, hP, hK, hD0⟩ := hv
  have hx := B.exec
  have hb := B.bytes
  have hr := B.returns
  have hts : ∀ w ∈ allW, w.before _ s = true := fun w hw => atoms_spec (ws := w_G_measureCorner) B.pre w (List.mem_cons_of_mem _ hw)
  have hown : s.vm.findClass R_G = some m.cls := findClass_of_methodNamed B.named
  have hlocks := B.notSynchronized
  subst hsz
  have hD := hD0.self (sz := s.heap.size)
  generalize hAe : va_A (cw_G_measureCorner cI a_this a_xs a_ys a_angles a_turns a_outlines a_costs a_rest a_restByTwo a_points n_xs n_ys n_angles n_turns c_count c_cost f_xs f_ys f_angles f_turns) s.heap.size = A at hD ⊢
  have hA : ∀ q : Nat, s.heap.size ≤ q → A q := fun q h => by rw [← hAe]; exact Or.inr h
  have hS : va_S A s.heap s.heap [] := va_S.rf
  clear hD0
  generalize hQf : MQ below (qq_G_measureCorner dC dI cI cB cJ cZ a_this a_xs a_ys a_angles a_turns a_outlines a_costs a_rest a_restByTwo a_points n_xs n_ys n_angles n_turns c_count c_cost f_xs f_ys A post) ([.ref a_this, .int x1] : List Value).toArray s 0 0 A = Qf
  have hl := lv_entry ([.ref a_this, .int x1]) (n := 10) (Nat.le_of_ble_eq_true rfl)
  rw [lg_entry_eq]
  generalize (lg_sl ([.ref a_this, .int x1]) ++ List.replicate (10 - (lg_sl ([.ref a_this, .int x1])).length) Slot.unset).toArray = ls at hl ⊢
  have hl : lv_has ls 10 [(0, .ref a_this), (1, .int x1)] := hl
  unfold wp_G_measureCorner at h
  have J131 : ∀ (x1_j131 : Int32) (x9_j131 : Int32) (y0_j131 : Int32) (y1_j131 : Int32) (f_angles_j131 : Nat → Int32) (f_turns_j131 : Nat → Int32) (H : Heap) (locs : List Loc) (ls : Array Slot), wp_G_measureCorner_J131 n_xs n_ys n_angles n_turns c_count f_xs f_ys f_angles_j131 f_turns_j131 x1_j131 x9_j131 y0_j131 y1_j131 post → va_P (dC, dI) vwCl (cw_G_measureCorner cI a_this a_xs a_ys a_angles a_turns a_outlines a_costs a_rest a_restByTwo a_points n_xs n_ys n_angles n_turns c_count c_cost f_xs f_ys f_angles_j131 f_turns_j131) H → va_D A (cw_G_measureCorner cI a_this a_xs a_ys a_angles a_turns a_outlines a_costs a_rest a_restByTwo a_points n_xs n_ys n_angles n_turns c_count c_cost f_xs f_ys f_angles_j131 f_turns_j131) → va_S A s.heap H locs → lv_has ls 10 [(0, .ref a_this), (1, .int x1_j131), (9, .int x9_j131)] → W p l e (headSpec w_G_measureCorner ({ frames := 2, cells := 0, slots := 0, locals := 44 })).room s m ([.ref a_this, .int x1] : List Value).toArray below meth c H locs 0 0 Qf (F0 m 131 ls [.int y0_j131, .int y1_j131, .ref a_angles]) := by
    intro x1_j131 x9_j131 y0_j131 y1_j131 f_angles_j131 f_turns_j131 H locs ls h hP hD hS hl
    unfold wp_G_measureCorner_J131 at h
    obtain ⟨hin, h⟩ := h
    refine va_iast hx hb hK hP hD hS 3 0 rfl rfl hin d_G_measureCorner_131 (fun H locs hP hD hS => ?_)
    obtain ⟨f131, e_f131⟩ : ∃ y : Nat → Int32, y = upd f_angles_j131 y1_j131.toNatClampNeg y0_j131 := ⟨_, rfl⟩
    have h := h f131 e_f131
    have hP : va_P (dC, dI) vwCl (cw_G_measureCorner cI a_this a_xs a_ys a_angles a_turns a_outlines a_costs a_rest a_restByTwo a_points n_xs n_ys n_angles n_turns c_count c_cost f_xs f_ys f131 f_turns_j131) H := by rw [e_f131]; exact hP
    have hD : va_D A (cw_G_measureCorner cI a_this a_xs a_ys a_angles a_turns a_outlines a_costs a_rest a_restByTwo a_points n_xs n_ys n_angles n_turns c_count c_cost f_xs f_ys f131 f_turns_j131) := by rw [e_f131]; exact hD
    refine lv_aload_n hx hb d_G_measureCorner_132 rfl (lv_at hl 0 rfl) ?_
    refine va_get (D := (dC, dI)) (ci := 3) (v := .ref a_turns) (C := R_G) (T := F_G) (N := 11) hx hb hts i_G_in hown hK hP 0 rfl rfl 8 (by decide) (hts _ q_122) (fun _ h9 => h9) rfl d_G_measureCorner_133 ?_
    refine lv_iload_n hx hb d_G_measureCorner_136 rfl (lv_at hl 1 rfl) ?_
    refine lv_iload hx hb d_G_measureCorner_137 (lv_at hl 2 rfl) ?_
    refine lv_iconst (v := 0) hx hb d_G_measureCorner_139 (by decide) ?_
    obtain ⟨Q140, hq140, h⟩ := h
    have hPc := hP.sub (ws' := (cw_Ji_compare)) [] rfl
    have hDc := hD.sub (ws' := (cw_Ji_compare)) [] (by decide) rfl
    have hFc := va_free (wc := (cw_Ji_compare)) hD hS hA [] rfl
    refine va_calli (va_runS (As := [.int x9_j131, .int (0 : Int32)]) (rest := [.int x1_j131, .ref a_turns]) ⟨hx, hb, hml, hown, hts⟩ (c_Ji_compare l dC dI cI cB cJ cZ H.size x9_j131 (0 : Int32) Q140 hq140) (va_cwS 2 hts (goodS q_542 q_543 q_15 q_544) rfl rfl rfl (by decide +kernel) ⟨Nat.le_of_ble_eq_true rfl, Nat.le_of_ble_eq_true rfl⟩) ⟨fun a U g mk q => by obtain ⟨q0, q1, qP, qK, qD⟩ := q; exact ⟨q0, q1, qP, va_K.moved (u := U) (U := U.calling g mk a) (Vm.Alike.refl U.vm) qK, qD⟩, fun U hU hW => ⟨rfl, by rw [hU], by rw [hU]; exact hPc, va_K.moved hW.alike hK, hDc.weaken (fun _ _ _ _ => trivial)⟩⟩ rfl rfl hl.1 rfl (lv_room (Nat.le_of_ble_eq_true rfl)) d_G_measureCorner_140 ⟨Nat.le_of_ble_eq_true rfl, Nat.le_of_ble_eq_true rfl⟩) hS (fun q _ h => hFc q h) hFc (fun r140 u140 t H1 locs ht hvm hw hB hz1 hk1 hS => ?_)
    cases u140
    obtain ⟨hP1, -, hD1⟩ := hB
    rw [ht] at hP1
    have h := h r140 hw
    obtain ⟨hP, hD⟩ := va_join (wr := [(a_this, .inr (3, [.ref a_outlines, .ref a_costs, .ref a_rest, .ref a_restByTwo, .ref a_points, .ref a_xs, .ref a_ys, .ref a_angles, .ref a_turns, .int c_count, .int c_cost])), (a_xs, .inl (cI, n_xs, .inl f_xs)), (a_ys, .inl (cI, n_ys, .inl f_ys)), (a_angles, .inl (cI, n_angles, .inl f131)), (a_turns, .inl (cI, n_turns, .inl f_turns_j131))]) (w1 := (cw_Ji_compare)) hP hD [] [0, 1, 2, 3, 4] rfl rfl (by decide) (by decide) hk1 hFc hP1 hD1
    clear hP1 hD1 hk1 hPc hDc hFc
    generalize H1 = H at hP hS ⊢
    have hP : va_P (dC, dI) vwCl (cw_G_measureCorner cI a_this a_xs a_ys a_angles a_turns a_outlines a_costs a_rest a_restByTwo a_points n_xs n_ys n_angles n_turns c_count c_cost f_xs f_ys f131 f_turns_j131) H := hP.sub [0, 1, 2, 3, 4] rfl
    have hD : va_D A (cw_G_measureCorner cI a_this a_xs a_ys a_angles a_turns a_outlines a_costs a_rest a_restByTwo a_points n_xs n_ys n_angles n_turns c_count c_cost f_xs f_ys f131 f_turns_j131) := hD.sub [0, 1, 2, 3, 4] (by decide) rfl
    obtain ⟨hin, h⟩ := h
    refine va_iast hx hb hK hP hD hS 4 0 rfl rfl hin d_G_measureCorner_143 (fun H locs hP hD hS => ?_)
    obtain ⟨f143, e_f143⟩ : ∃ y : Nat → Int32, y = upd f_turns_j131 x1_j131.toNatClampNeg r140 := ⟨_, rfl⟩
    have h := h f143 e_f143
    have hP : va_P (dC, dI) vwCl (cw_G_measureCorner cI a_this a_xs a_ys a_angles a_turns a_outlines a_costs a_rest a_restByTwo a_points n_xs n_ys n_angles n_turns c_count c_cost f_xs f_ys f131 f143) H := by rw [e_f143]; exact hP
    have hD : va_D A (cw_G_measureCorner cI a_this a_xs a_ys a_angles a_turns a_outlines a_costs a_rest a_restByTwo a_points n_xs n_ys n_angles n_turns c_count c_cost f_xs f_ys f131 f143) := by rw [e_f143]; exact hD
    subst hQf
    exact W.vret hx hb hr (fun t ht hW => ⟨⟨(f131, f143), rfl, h, by rw [ht]; exact hP, va_K.moved hW.alike hK, hD⟩, hS.F ht⟩) hS.2.2 d_G_measureCorner_144
  refine lv_aload_n hx hb d_G_measureCorner_0 rfl (lv_at hl 0 rfl) ?_
  refine lv_iload_n hx hb d_G_measureCorner_1 rfl (lv_at hl 1 rfl) ?_
  refine lv_iconst (v := -1) hx hb d_G_measureCorner_2 (by decide) ?_
  obtain ⟨Q3, hq3, h⟩ := h
  have hPc := hP.sub (ws' := (cw_G_cornerBeside a_this a_outlines a_costs a_rest a_restByTwo a_points a_xs a_ys a_angles a_turns c_count c_cost)) [0] rfl
  have hDc := hD.sub (ws' := (cw_G_cornerBeside a_this a_outlines a_costs a_rest a_restByTwo a_points a_xs a_ys a_angles a_turns c_count c_cost)) [0] (by decide) rfl
  have hFc := va_free (wc := (cw_G_cornerBeside a_this a_outlines a_costs a_rest a_restByTwo a_points a_xs a_ys a_angles a_turns c_count c_cost)) hD hS hA [0] rfl
  refine va_calli (va_runV (As := [.int x1, .int (-1 : Int32)]) (rest := []) ⟨hx, hb, hml, hown, hts⟩ (c_G_cornerBeside l dC dI cI cB cJ cZ a_this a_outlines a_costs a_rest a_restByTwo a_points a_xs a_ys a_angles a_turns s.heap.size c_count c_cost x1 (-1 : Int32) Q3 hq3) (cwV 2 hts (goodV q_534 q_535 q_536 q_5 q_537) rfl rfl rfl (by decide +kernel) ⟨Nat.le_of_ble_eq_true rfl, Nat.le_of_ble_eq_true rfl⟩) ⟨fun a U g mk q => by obtain ⟨q0, q1, qP, qK, qD⟩ := q; exact ⟨q0, q1, qP, va_K.moved (u := U) (U := U.calling g mk a) (Vm.Alike.refl U.vm) qK, qD⟩, va_recv hK hPc (ci := 3) (q0 := 0) rfl rfl, fun U hU hW => ⟨rfl, by rw [hU], by rw [hU]; exact hPc, va_K.moved hW.alike hK, hDc.weaken (fun _ _ _ _ => trivial)⟩⟩ rfl rfl hl.1 rfl (lv_room (Nat.le_of_ble_eq_true rfl)) d_G_measureCorner_3 ⟨Nat.le_of_ble_eq_true rfl, Nat.le_of_ble_eq_true rfl⟩) hS (fun q _ h => hFc q h) hFc (fun r3 u3 t H1 locs ht hvm hw hB hz1 hk1 hS => ?_)
  cases u3
  obtain ⟨hP1, -, hD1⟩ := hB
  rw [ht] at hP1
  have h := h r3 hw
  obtain ⟨hP, hD⟩ := va_join (wr := [(a_xs, .inl (cI, n_xs, .inl f_xs)), (a_ys, .inl (cI, n_ys, .inl f_ys)), (a_angles, .inl (cI, n_angles, .inl f_angles)), (a_turns, .inl (cI, n_turns, .inl f_turns))]) (w1 := (cw_G_cornerBeside a_this a_outlines a_costs a_rest a_restByTwo a_points a_xs a_ys a_angles a_turns c_count c_cost)) hP hD [0] [1, 2, 3, 4] rfl rfl (by decide) (by decide) hk1 hFc hP1 hD1
  clear hP1 hD1 hk1 hPc hDc hFc
  generalize H1 = H at hP hS ⊢
  have hP : va_P (dC, dI) vwCl (cw_G_measureCorner cI a_this a_xs a_ys a_angles a_turns a_outlines a_costs a_rest a_restByTwo a_points n_xs n_ys n_angles n_turns c_count c_cost f_xs f_ys f_angles f_turns) H := hP.sub [4, 0, 1, 2, 3] rfl
  have hD : va_D A (cw_G_measureCorner cI a_this a_xs a_ys a_angles a_turns a_outlines a_costs a_rest a_restByTwo a_points n_xs n_ys n_angles n_turns c_count c_cost f_xs f_ys f_angles f_turns) := hD.sub [4, 0, 1, 2, 3] (by decide) rfl
  refine lv_istore_n (lv' := [(2, .int r3), (0, .ref a_this), (1, .int x1)]) hx hb d_G_measureCorner_6 rfl hl (by decide) rfl (fun ls hl => ?_)
  refine lv_aload_n hx hb d_G_measureCorner_7 rfl (lv_at hl 1 rfl) ?_
  refine lv_iload_n hx hb d_G_measureCorner_8 rfl (lv_at hl 2 rfl) ?_
  refine lv_iconst (v := 1) hx hb d_G_measureCorner_9 (by decide) ?_
  obtain ⟨Q10, hq10, h⟩ := h
  have hPc := hP.sub (ws' := (cw_G_cornerBeside a_this a_outlines a_costs a_rest a_restByTwo a_points a_xs a_ys a_angles a_turns c_count c_cost)) [0] rfl
  have hDc := hD.sub (ws' := (cw_G_cornerBeside a_this a_outlines a_costs a_rest a_restByTwo a_points a_xs a_ys a_angles a_turns c_count c_cost)) [0] (by decide) rfl
  have hFc := va_free (wc := (cw_G_cornerBeside a_this a_outlines a_costs a_rest a_restByTwo a_points a_xs a_ys a_angles a_turns c_count c_cost)) hD hS hA [0] rfl
  refine va_calli (va_runV (As := [.int x1, .int (1 : Int32)]) (rest := []) ⟨hx, hb, hml, hown, hts⟩ (c_G_cornerBeside l dC dI cI cB cJ cZ a_this a_outlines a_costs a_rest a_restByTwo a_points a_xs a_ys a_angles a_turns H.size c_count c_cost x1 (1 : Int32) Q10 hq10) (cwV 2 hts (goodV q_534 q_535 q_536 q_5 q_537) rfl rfl rfl (by decide +kernel) ⟨Nat.le_of_ble_eq_true rfl, Nat.le_of_ble_eq_true rfl⟩) ⟨fun a U g mk q => by obtain ⟨q0, q1, qP, qK, qD⟩ := q; exact ⟨q0, q1, qP, va_K.moved (u := U) (U := U.calling g mk a) (Vm.Alike.refl U.vm) qK, qD⟩, va_recv hK hPc (ci := 3) (q0 := 0) rfl rfl, fun U hU hW => ⟨rfl, by rw [hU], by rw [hU]; exact hPc, va_K.moved hW.alike hK, hDc.weaken (fun _ _ _ _ => trivial)⟩⟩ rfl rfl hl.1 rfl (lv_room (Nat.le_of_ble_eq_true rfl)) d_G_measureCorner_10 ⟨Nat.le_of_ble_eq_true rfl, Nat.le_of_ble_eq_true rfl⟩) hS (fun q _ h => hFc q h) hFc (fun r10 u10 t H1 locs ht hvm hw hB hz1 hk1 hS => ?_)
  cases u10
  obtain ⟨hP1, -, hD1⟩ := hB
  rw [ht] at hP1
  have h := h r10 hw
  obtain ⟨hP, hD⟩ := va_join (wr := [(a_xs, .inl (cI, n_xs, .inl f_xs)), (a_ys, .inl (cI, n_ys, .inl f_ys)), (a_angles, .inl (cI, n_angles, .inl f_angles)), (a_turns, .inl (cI, n_turns, .inl f_turns))]) (w1 := (cw_G_cornerBeside a_this a_outlines a_costs a_rest a_restByTwo a_points a_xs a_ys a_angles a_turns c_count c_cost)) hP hD [0] [1, 2, 3, 4] rfl rfl (by decide) (by decide) hk1 hFc hP1 hD1
  clear hP1 hD1 hk1 hPc hDc hFc
  generalize H1 = H at hP hS ⊢
  have hP : va_P (dC, dI) vwCl (cw_G_measureCorner cI a_this a_xs a_ys a_angles a_turns a_outlines a_costs a_rest a_restByTwo a_points n_xs n_ys n_angles n_turns c_count c_cost f_xs f_ys f_angles f_turns) H := hP.sub [4, 0, 1, 2, 3] rfl
  have hD : va_D A (cw_G_measureCorner cI a_this a_xs a_ys a_angles a_turns a_outlines a_costs a_rest a_restByTwo a_points n_xs n_ys n_angles n_turns c_count c_cost f_xs f_ys f_angles f_turns) := hD.sub [4, 0, 1, 2, 3] (by decide) rfl
  refine lv_istore_n (lv' := [(3, .int r10), (2, .int r3), (0, .ref a_this), (1, .int x1)]) hx hb d_G_measureCorner_13 rfl hl (by decide) rfl (fun ls hl => ?_)
  refine lv_aload_n hx hb d_G_measureCorner_14 rfl (lv_at hl 2 rfl) ?_
  refine va_get (D := (dC, dI)) (ci := 3) (v := .ref a_xs) (C := R_G) (T := F_G) (N := 11) hx hb hts i_G_in hown hK hP 0 rfl rfl 5 (by decide) (hts _ q_113) (fun _ h9 => h9) rfl d_G_measureCorner_15 ?_
  refine lv_iload_n hx hb d_G_measureCorner_18 rfl (lv_at hl 3 rfl) ?_
  obtain ⟨hin, h⟩ := h
  refine va_iald hx hb hK hP 1 0 rfl rfl hin d_G_measureCorner_19 ?_
  refine lv_aload_n hx hb d_G_measureCorner_20 rfl (lv_at hl 2 rfl) ?_
  refine va_get (D := (dC, dI)) (ci := 3) (v := .ref a_xs) (C := R_G) (T := F_G) (N := 11) hx hb hts i_G_in hown hK hP 0 rfl rfl 5 (by decide) (hts _ q_113) (fun _ h9 => h9) rfl d_G_measureCorner_21 ?_
  refine lv_iload_n hx hb d_G_measureCorner_24 rfl (lv_at hl 1 rfl) ?_
  obtain ⟨hin, h⟩ := h
  refine va_iald hx hb hK hP 1 0 rfl rfl hin d_G_measureCorner_25 ?_
  refine lv_isub hx hb d_G_measureCorner_26 ?_
  refine lv_topi (fun x4_27 e_x4_27 => ?_)
  have h := h x4_27 e_x4_27
  refine lv_istore (lv' := [(4, .int x4_27), (3, .int r10), (2, .int r3), (0, .ref a_this), (1, .int x1)]) hx hb d_G_measureCorner_27 hl (by decide) rfl (fun ls hl => ?_)
  refine lv_aload_n hx hb d_G_measureCorner_29 rfl (lv_at hl 3 rfl) ?_
  refine va_get (D := (dC, dI)) (ci := 3) (v := .ref a_ys) (C := R_G) (T := F_G) (N := 11) hx hb hts i_G_in hown hK hP 0 rfl rfl 6 (by decide) (hts _ q_116) (fun _ h9 => h9) rfl d_G_measureCorner_30 ?_
  refine lv_iload_n hx hb d_G_measureCorner_33 rfl (lv_at hl 4 rfl) ?_
  obtain ⟨hin, h⟩ := h
  refine va_iald hx hb hK hP 2 0 rfl rfl hin d_G_measureCorner_34 ?_
  refine lv_aload_n hx hb d_G_measureCorner_35 rfl (lv_at hl 3 rfl) ?_
  refine va_get (D := (dC, dI)) (ci := 3) (v := .ref a_ys) (C := R_G) (T := F_G) (N := 11) hx hb hts i_G_in hown hK hP 0 rfl rfl 6 (by decide) (hts _ q_116) (fun _ h9 => h9) rfl d_G_measureCorner_36 ?_
  refine lv_iload_n hx hb d_G_measureCorner_39 rfl (lv_at hl 2 rfl) ?_
  obtain ⟨hin, h⟩ := h
  refine va_iald hx hb hK hP 2 0 rfl rfl hin d_G_measureCorner_40 ?_
  refine lv_isub hx hb d_G_measureCorner_41 ?_
  refine lv_topi (fun x5_42 e_x5_42 => ?_)
  have h := h x5_42 e_x5_42
  refine lv_istore (lv' := [(5, .int x5_42), (4, .int x4_27), (3, .int r10), (2, .int r3), (0, .ref a_this), (1, .int x1)]) hx hb d_G_measureCorner_42 hl (by decide) rfl (fun ls hl => ?_)
  refine lv_aload_n hx hb d_G_measureCorner_44 rfl (lv_at hl 4 rfl) ?_
  refine va_get (D := (dC, dI)) (ci := 3) (v := .ref a_xs) (C := R_G) (T := F_G) (N := 11) hx hb hts i_G_in hown hK hP 0 rfl rfl 5 (by decide) (hts _ q_113) (fun _ h9 => h9) rfl d_G_measureCorner_45 ?_
  refine lv_iload_n hx hb d_G_measureCorner_48 rfl (lv_at hl 2 rfl) ?_
  obtain ⟨hin, h⟩ := h
  refine va_iald hx hb hK hP 1 0 rfl rfl hin d_G_measureCorner_49 ?_
  refine lv_aload_n hx hb d_G_measureCorner_50 rfl (lv_at hl 4 rfl) ?_
  refine va_get (D := (dC, dI)) (ci := 3) (v := .ref a_xs) (C := R_G) (T := F_G) (N := 11) hx hb hts i_G_in hown hK hP 0 rfl rfl 5 (by decide) (hts _ q_113) (fun _ h9 => h9) rfl d_G_measureCorner_51 ?_
  refine lv_iload_n hx hb d_G_measureCorner_54 rfl (lv_at hl 5 rfl) ?_
  obtain ⟨hin, h⟩ := h
  refine va_iald hx hb hK hP 1 0 rfl rfl hin d_G_measureCorner_55 ?_
  refine lv_isub hx hb d_G_measureCorner_56 ?_
  refine lv_topi (fun x6_57 e_x6_57 => ?_)
  have h := h x6_57 e_x6_57
  refine lv_istore (lv' := [(6, .int x6_57), (5, .int x5_42), (4, .int x4_27), (3, .int r10), (2, .int r3), (0, .ref a_this), (1, .int x1)]) hx hb d_G_measureCorner_57 hl (by decide) rfl (fun ls hl => ?_)
  refine lv_aload_n hx hb d_G_measureCorner_59 rfl (lv_at hl 5 rfl) ?_
  refine va_get (D := (dC, dI)) (ci := 3) (v := .ref a_ys) (C := R_G) (T := F_G) (N := 11) hx hb hts i_G_in hown hK hP 0 rfl rfl 6 (by decide) (hts _ q_116) (fun _ h9 => h9) rfl d_G_measureCorner_60 ?_
  refine lv_iload_n hx hb d_G_measureCorner_63 rfl (lv_at hl 3 rfl) ?_
  obtain ⟨hin, h⟩ := h
  refine va_iald hx hb hK hP 2 0 rfl rfl hin d_G_measureCorner_64 ?_
  refine lv_aload_n hx hb d_G_measureCorner_65 rfl (lv_at hl 5 rfl) ?_
  refine va_get (D := (dC, dI)) (ci := 3) (v := .ref a_ys) (C := R_G) (T := F_G) (N := 11) hx hb hts i_G_in hown hK hP 0 rfl rfl 6 (by decide) (hts _ q_116) (fun _ h9 => h9) rfl d_G_measureCorner_66 ?_
  refine lv_iload_n hx hb d_G_measureCorner_69 rfl (lv_at hl 6 rfl) ?_
  obtain ⟨hin, h⟩ := h
  refine va_iald hx hb hK hP 2 0 rfl rfl hin d_G_measureCorner_70 ?_
  refine lv_isub hx hb d_G_measureCorner_71 ?_
  refine lv_topi (fun x7_72 e_x7_72 => ?_)
  have h := h x7_72 e_x7_72
  refine lv_istore (lv' := [(7, .int x7_72), (6, .int x6_57), (5, .int x5_42), (4, .int x4_27), (3, .int r10), (2, .int r3), (0, .ref a_this), (1, .int x1)]) hx hb d_G_measureCorner_72 hl (by decide) rfl (fun ls hl => ?_)
  refine lv_iload hx hb d_G_measureCorner_74 (lv_at hl 3 rfl) ?_
  refine lv_iload hx hb d_G_measureCorner_76 (lv_at hl 1 rfl) ?_
  refine lv_imul hx hb d_G_measureCorner_78 ?_
  refine lv_iload hx hb d_G_measureCorner_79 (lv_at hl 2 rfl) ?_
  refine lv_iload hx hb d_G_measureCorner_81 (lv_at hl 0 rfl) ?_
  refine lv_imul hx hb d_G_measureCorner_83 ?_
  refine lv_iadd hx hb d_G_measureCorner_84 ?_
  refine lv_topi (fun x8_85 e_x8_85 => ?_)
  have h := h x8_85 e_x8_85
  refine lv_istore (lv' := [(8, .int x8_85), (7, .int x7_72), (6, .int x6_57), (5, .int x5_42), (4, .int x4_27), (3, .int r10), (2, .int r3), (0, .ref a_this), (1, .int x1)]) hx hb d_G_measureCorner_85 hl (by decide) rfl (fun ls hl => ?_)
  refine lv_iload hx hb d_G_measureCorner_87 (lv_at hl 4 rfl) ?_
  refine lv_iload hx hb d_G_measureCorner_89 (lv_at hl 1 rfl) ?_
  refine lv_imul hx hb d_G_measureCorner_91 ?_
  refine lv_iload hx hb d_G_measureCorner_92 (lv_at hl 3 rfl) ?_
  refine lv_iload hx hb d_G_measureCorner_94 (lv_at hl 2 rfl) ?_
  refine lv_imul hx hb d_G_measureCorner_96 ?_
  refine lv_isub hx hb d_G_measureCorner_97 ?_
  refine lv_topi (fun x9_98 e_x9_98 => ?_)
  have h := h x9_98 e_x9_98
  refine lv_istore (lv' := [(9, .int x9_98), (8, .int x8_85), (7, .int x7_72), (6, .int x6_57), (5, .int x5_42), (4, .int x4_27), (3, .int r10), (2, .int r3), (0, .ref a_this), (1, .int x1)]) hx hb d_G_measureCorner_98 hl (by decide) rfl (fun ls hl => ?_)
  refine lv_aload_n hx hb d_G_measureCorner_100 rfl (lv_at hl 8 rfl) ?_
  refine va_get (D := (dC, dI)) (ci := 3) (v := .ref a_angles) (C := R_G) (T := F_G) (N := 11) hx hb hts i_G_in hown hK hP 0 rfl rfl 7 (by decide) (hts _ q_119) (fun _ h9 => h9) rfl d_G_measureCorner_101 ?_
  refine lv_iload_n hx hb d_G_measureCorner_104 rfl (lv_at hl 9 rfl) ?_
  refine lv_iload hx hb d_G_measureCorner_105 (lv_at hl 1 rfl) ?_
  refine lv_if_gt (tgt := 115) hx hb d_G_measureCorner_107 (by decide) (fun cc_ => ?_) (fun cc_ => ?_)
  · have h := h.1 cc_
    refine lv_bipush (v := 63) hx hb d_G_measureCorner_115 (by decide) ?_
    refine lv_bipush (v := 16) hx hb d_G_measureCorner_117 (by decide) ?_
    refine lv_iload hx hb d_G_measureCorner_119 (lv_at hl 0 rfl) ?_
    refine va_mabs hx hb (hml.trans hl.1.symm) hown (hts _ q_541) (hts _ q_400) (hts _ q_3) (hts _ q_401) (Nat.le_of_ble_eq_true rfl) (Nat.le_of_ble_eq_true rfl) (Nat.zero_le _) (Nat.zero_le _) d_G_measureCorner_121 ?_
    refine W.eq (g2 := F0 m 124 ls [.int (jabs x9_98), .int (16 : Int32), .int (63 : Int32), .int x1, .ref a_angles]) rfl ?_
    refine lv_imul hx hb d_G_measureCorner_124 ?_
    refine lv_iload hx hb d_G_measureCorner_125 (lv_at hl 1 rfl) ?_
    obtain ⟨hne, h⟩ := h
    refine lv_idiv hx hb d_G_measureCorner_127 hne ?_
    refine va_mmin hx hb (hml.trans hl.1.symm) hown (hts _ q_498) (hts _ q_31) (hts _ q_3) (hts _ q_32) (Nat.le_of_ble_eq_true rfl) (Nat.le_of_ble_eq_true rfl) (Nat.zero_le _) (Nat.zero_le _) d_G_measureCorner_128 ?_
    refine W.eq (g2 := F0 m 131 ls [.int (jmin (63 : Int32) (((16 : Int32) * (jabs x9_98)) / x8_85)), .int x1, .ref a_angles]) rfl ?_
    exact J131 x1 x9_98 (jmin (63 : Int32) (((16 : Int32) * (jabs x9_98)) / x8_85)) x1 f_angles f_turns _ _ _ h hP hD hS (lv_sub hl [8, 9, 0] rfl)
  · have h := h.2 cc_
    refine lv_bipush (v := 64) hx hb d_G_measureCorner_110 (by decide) ?_
    refine lv_goto (tgt := 131) hx hb d_G_measureCorner_112 (by decide) ?_
    exact J131 x1 x9_98 (64 : Int32) x1 f_angles f_turns _ _ _ h hP hD hS (lv_sub hl [8, 9, 0] rfl)
def wp_G_measure_L72 (n_outlines_begins n_xs n_ys n_angles n_turns n_points n_outlines_xs n_outlines_ys : Nat) (c_count : Int32) (f_outlines_begins : Nat → Int32) (f_points : Nat → Int32) (f_outlines_xs : Nat → Int32) (f_outlines_ys : Nat → Int32) (f_xs : Nat → Int32) (f_ys : Nat → Int32) (post : ((Nat → Int32) × (Nat → Int32) × (Nat → Int32) × (Nat → Int32)) → Prop) (back72 : (Int32 × (Nat → Int32) × (Nat → Int32)) → Prop) (x3 : Int32) (f_angles : Nat → Int32) (f_turns : Nat → Int32) : Prop :=
  (c_count ≤ x3 → post (f_xs, f_ys, f_angles, f_turns)) ∧ (¬ c_count ≤ x3 → ∃ Q82 : ((Nat → Int32) × (Nat → Int32)) → Prop, wp_G_measureCorner n_xs n_ys n_angles n_turns c_count f_xs f_ys f_angles f_turns x3 Q82 ∧ ∀ (u82_0 : Nat → Int32) (u82_1 : Nat → Int32), Q82 (u82_0, u82_1) → ∀ x3_85 : Int32, x3_85 = x3 + (1 : Int32) → back72 (x3_85, u82_0, u82_1))
def wp_G_measure_L12 (n_outlines_begins n_xs n_ys n_angles n_turns n_points n_outlines_xs n_outlines_ys : Nat) (c_count : Int32) (f_outlines_begins : Nat → Int32) (f_points : Nat → Int32) (f_outlines_xs : Nat → Int32) (f_outlines_ys : Nat → Int32) (f_angles : Nat → Int32) (f_turns : Nat → Int32) (x2 : Int32) (post : ((Nat → Int32) × (Nat → Int32) × (Nat → Int32) × (Nat → Int32)) → Prop) (back12 : (Int32 × (Nat → Int32) × (Nat → Int32)) → Prop) (x3 : Int32) (f_xs : Nat → Int32) (f_ys : Nat → Int32) : Prop :=
  (c_count ≤ x3 → lpW (fun b z => wp_G_measure_L72 n_outlines_begins n_xs n_ys n_angles n_turns n_points n_outlines_xs n_outlines_ys c_count f_outlines_begins f_points f_outlines_xs f_outlines_ys f_xs f_ys post b z.1 z.2.1 z.2.2) ((0 : Int32), f_angles, f_turns)) ∧ (¬ c_count ≤ x3 → vp_in x3 n_points ∧ vp_in (x2 + (f_points x3.toNatClampNeg)) n_outlines_xs ∧ vp_in x3 n_xs ∧ ∀ f41 : Nat → Int32, f41 = upd f_xs x3.toNatClampNeg (f_outlines_xs (x2 + (f_points x3.toNatClampNeg)).toNatClampNeg) → vp_in x3 n_points ∧ vp_in (x2 + (f_points x3.toNatClampNeg)) n_outlines_ys ∧ vp_in x3 n_ys ∧ ∀ f63 : Nat → Int32, f63 = upd f_ys x3.toNatClampNeg (f_outlines_ys (x2 + (f_points x3.toNatClampNeg)).toNatClampNeg) → ∀ x3_64 : Int32, x3_64 = x3 + (1 : Int32) → back12 (x3_64, f41, f63))
def wp_G_measure (n_outlines_begins n_xs n_ys n_angles n_turns n_points n_outlines_xs n_outlines_ys : Nat) (c_count : Int32) (f_outlines_begins : Nat → Int32) (f_xs : Nat → Int32) (f_ys : Nat → Int32) (f_angles : Nat → Int32) (f_turns : Nat → Int32) (f_points : Nat → Int32) (f_outlines_xs : Nat → Int32) (f_outlines_ys : Nat → Int32) (x1 : Int32) (post : ((Nat → Int32) × (Nat → Int32) × (Nat → Int32) × (Nat → Int32)) → Prop) : Prop :=
  vp_in x1 n_outlines_begins ∧ ∀ x2_9 : Int32, x2_9 = (f_outlines_begins x1.toNatClampNeg) → lpW (fun b z => wp_G_measure_L12 n_outlines_begins n_xs n_ys n_angles n_turns n_points n_outlines_xs n_outlines_ys c_count f_outlines_begins f_points f_outlines_xs f_outlines_ys f_angles f_turns x2_9 post b z.1 z.2.1 z.2.2) ((0 : Int32), f_xs, f_ys)
abbrev cw_G_measure (cB cI : ClassId) (a_this a_outlines a_outlines_begins a_xs a_ys a_angles a_turns a_points a_outlines_xs a_outlines_ys a_costs a_rest a_restByTwo a_outlines_picture a_outlines_layers a_outlines_areas a_outlines_walked : Nat) (n_outlines_begins n_xs n_ys n_angles n_turns n_points n_outlines_xs n_outlines_ys : Nat) (c_count : Int32) (c_cost : Int32) (c_outlines_count : Int32) (c_outlines_traced : Int32) (f_outlines_begins : Nat → Int32) (f_xs : Nat → Int32) (f_ys : Nat → Int32) (f_angles : Nat → Int32) (f_turns : Nat → Int32) (f_points : Nat → Int32) (f_outlines_xs : Nat → Int32) (f_outlines_ys : Nat → Int32) : va_W := [(a_this, .inr (3, [.ref a_outlines, .ref a_costs, .ref a_rest, .ref a_restByTwo, .ref a_points, .ref a_xs, .ref a_ys, .ref a_angles, .ref a_turns, .int c_count, .int c_cost])), (a_outlines, .inr (2, [.ref a_outlines_picture, .ref a_outlines_xs, .ref a_outlines_ys, .ref a_outlines_begins, .ref a_outlines_layers, .ref a_outlines_areas, .ref a_outlines_walked, .int c_outlines_count, .int c_outlines_traced])), (a_outlines_begins, .inl (cI, n_outlines_begins, .inl f_outlines_begins)), (a_xs, .inl (cI, n_xs, .inl f_xs)), (a_ys, .inl (cI, n_ys, .inl f_ys)), (a_angles, .inl (cI, n_angles, .inl f_angles)), (a_turns, .inl (cI, n_turns, .inl f_turns)), (a_points, .inl (cI, n_points, .inl f_points)), (a_outlines_xs, .inl (cB, n_outlines_xs, .inl f_outlines_xs)), (a_outlines_ys, .inl (cB, n_outlines_ys, .inl f_outlines_ys))]
abbrev qq_G_measure (dC : Nat → ClassId) (dI : Nat → Nat → Nat) (cI cB cJ cZ : ClassId) (a_this a_outlines a_outlines_begins a_xs a_ys a_angles a_turns a_points a_outlines_xs a_outlines_ys a_costs a_rest a_restByTwo a_outlines_picture a_outlines_layers a_outlines_areas a_outlines_walked : Nat) (n_outlines_begins n_xs n_ys n_angles n_turns n_points n_outlines_xs n_outlines_ys : Nat) (c_count : Int32) (c_cost : Int32) (c_outlines_count : Int32) (c_outlines_traced : Int32) (f_outlines_begins : Nat → Int32) (f_points : Nat → Int32) (f_outlines_xs : Nat → Int32) (f_outlines_ys : Nat → Int32) (A : Nat → Prop) (post : ((Nat → Int32) × (Nat → Int32) × (Nat → Int32) × (Nat → Int32)) → Prop) : Array Value → State → Outcome → State → Prop := va_Qv post (fun u t => va_P (dC, dI) vwCl (cw_G_measure cB cI a_this a_outlines a_outlines_begins a_xs a_ys a_angles a_turns a_points a_outlines_xs a_outlines_ys a_costs a_rest a_restByTwo a_outlines_picture a_outlines_layers a_outlines_areas a_outlines_walked n_outlines_begins n_xs n_ys n_angles n_turns n_points n_outlines_xs n_outlines_ys c_count c_cost c_outlines_count c_outlines_traced f_outlines_begins u.1 u.2.1 u.2.2.1 u.2.2.2 f_points f_outlines_xs f_outlines_ys) t.heap ∧ va_K (dC, dI) vwCl [(cI, .int), (cB, .byte), (cJ, .long), (cZ, .boolean)] t ∧ va_D A (cw_G_measure cB cI a_this a_outlines a_outlines_begins a_xs a_ys a_angles a_turns a_points a_outlines_xs a_outlines_ys a_costs a_rest a_restByTwo a_outlines_picture a_outlines_layers a_outlines_areas a_outlines_walked n_outlines_begins n_xs n_ys n_angles n_turns n_points n_outlines_xs n_outlines_ys c_count c_cost c_outlines_count c_outlines_traced f_outlines_begins u.1 u.2.1 u.2.2.1 u.2.2.2 f_points f_outlines_xs f_outlines_ys)) A
set_option maxHeartbeats 4000000 in
set_option maxRecDepth 100000 in
theorem c_G_measure (l : Launch) (dC : Nat → ClassId) (dI : Nat → Nat → Nat) (cI cB cJ cZ : ClassId) (a_this a_outlines a_outlines_begins a_xs a_ys a_angles a_turns a_points a_outlines_xs a_outlines_ys a_costs a_rest a_restByTwo a_outlines_picture a_outlines_layers a_outlines_areas a_outlines_walked : Nat) (sz : Nat) (n_outlines_begins n_xs n_ys n_angles n_turns n_points n_outlines_xs n_outlines_ys : Nat) (c_count : Int32) (c_cost : Int32) (c_outlines_count : Int32) (c_outlines_traced : Int32) (f_outlines_begins : Nat → Int32) (f_xs : Nat → Int32) (f_ys : Nat → Int32) (f_angles : Nat → Int32) (f_turns : Nat → Int32) (f_points : Nat → Int32) (f_outlines_xs : Nat → Int32) (f_outlines_ys : Nat → Int32) (x1 : Int32) (post : ((Nat → Int32) × (Nat → Int32) × (Nat → Int32) × (Nat → Int32)) → Prop) (h : wp_G_measure n_outlines_begins n_xs n_ys n_angles n_turns n_points n_outlines_xs n_outlines_ys c_count f_outlines_begins f_xs f_ys f_angles f_turns f_points f_outlines_xs f_outlines_ys x1 post) : Met l y_G_measure w_G_measure ({ frames := 3, cells := 0, slots := 0, locals := 73 }) (va_Pc [.ref a_this, .int x1] (fun U => U.heap.size = sz ∧ va_P (dC, dI) vwCl (cw_G_measure cB cI a_this a_outlines a_outlines_begins a_xs a_ys a_angles a_turns a_points a_outlines_xs a_outlines_ys a_costs a_rest a_restByTwo a_outlines_picture a_outlines_layers a_outlines_areas a_outlines_walked n_outlines_begins n_xs n_ys n_angles n_turns n_points n_outlines_xs n_outlines_ys c_count c_cost c_outlines_count c_outlines_traced f_outlines_begins f_xs f_ys f_angles f_turns f_points f_outlines_xs f_outlines_ys) U.heap ∧ va_K (dC, dI) vwCl [(cI, .int), (cB, .byte), (cJ, .long), (cZ, .boolean)] U ∧ va_D (fun _ => True) (cw_G_measure cB cI a_this a_outlines a_outlines_begins a_xs a_ys a_angles a_turns a_points a_outlines_xs a_outlines_ys a_costs a_rest a_restByTwo a_outlines_picture a_outlines_layers a_outlines_areas a_outlines_walked n_outlines_begins n_xs n_ys n_angles n_turns n_points n_outlines_xs n_outlines_ys c_count c_cost c_outlines_count c_outlines_traced f_outlines_begins f_xs f_ys f_angles f_turns f_points f_outlines_xs f_outlines_ys))) (qq_G_measure dC dI cI cB cJ cZ a_this a_outlines a_outlines_begins a_xs a_ys a_angles a_turns a_points a_outlines_xs a_outlines_ys a_costs a_rest a_restByTwo a_outlines_picture a_outlines_layers a_outlines_areas a_outlines_walked n_outlines_begins n_xs n_ys n_angles n_turns n_points n_outlines_xs n_outlines_ys c_count c_cost c_outlines_count c_outlines_traced f_outlines_begins f_points f_outlines_xs f_outlines_ys (va_A (cw_G_measure cB cI a_this a_outlines a_outlines_begins a_xs a_ys a_angles a_turns a_points a_outlines_xs a_outlines_ys a_costs a_rest a_restByTwo a_outlines_picture a_outlines_layers a_outlines_areas a_outlines_walked n_outlines_begins n_xs n_ys n_angles n_turns n_points n_outlines_xs n_outlines_ys c_count c_cost c_outlines_count c_outlines_traced f_outlines_begins f_xs f_ys f_angles f_turns f_points f_outlines_xs f_outlines_ys) sz) post) 0 0 (va_A (cw_G_measure cB cI a_this a_outlines a_outlines_begins a_xs a_ys a_angles a_turns a_points a_outlines_xs a_outlines_ys a_costs a_rest a_restByTwo a_outlines_picture a_outlines_layers a_outlines_areas a_outlines_walked n_outlines_begins n_xs n_ys n_angles n_turns n_points n_outlines_xs n_outlines_ys c_count c_cost c_outlines_count c_outlines_traced f_outlines_begins f_xs f_ys f_angles f_turns f_points f_outlines_xs f_outlines_ys) sz) := by
  refine Met.ofW (cc := b_G_measure) (maxL := 4) (ret := none) (by decide +kernel) rfl ?_
  intro p e s m args below meth c s₁ B hml hv
  obtain ⟨rfl, hsz, hP, hK, hD0⟩ := hv
  have hx := B.exec
  have hb := B.bytes
  have hr := B.returns
  have hts : ∀ w ∈ allW, w.before _ s = true := fun w hw => atoms_spec (ws := w_G_measure) B.pre w (List.mem_cons_of_mem _ hw)
  have hown : s.vm.findClass R_G = some m.cls := findClass_of_methodNamed B.named
  have hlocks := B.notSynchronized
  subst hsz
  have hD := hD0.self (sz := s.heap.size)
  generalize hAe : va_A (cw_G_measure cB cI a_this a_outlines a_outlines_begins a_xs a_ys a_angles a_turns a_points a_outlines_xs a_outlines_ys a_costs a_rest a_restByTwo a_outlines_picture a_outlines_layers a_outlines_areas a_outlines_walked n_outlines_begins n_xs n_ys n_angles n_turns n_points n_outlines_xs n_outlines_ys c_count c_cost c_outlines_count c_outlines_traced f_outlines_begins f_xs f_ys f_angles f_turns f_points f_outlines_xs f_outlines_ys) s.heap.size = A at hD ⊢
  have hA : ∀ q : Nat, s.heap.size ≤ q → A q := fun q h => by rw [← hAe]; exact Or.inr h
  have hS : va_S A s.heap s.heap [] := va_S.rf
  clear hD0
  generalize hQf : MQ below (qq_G_measure dC dI cI cB cJ cZ a_this a_outlines a_outlines_begins a_xs a_ys a_angles a_turns a_points a_outlines_xs a_outlines_ys a_costs a_rest a_restByTwo a_outlines_picture a_outlines_layers a_outlines_areas a_outlines_walked n_outlines_begins n_xs n_ys n_angles n_turns n_points n_outlines_xs n_outlines_ys c_count c_cost c_outlines_count c_outlines_traced f_outlines_begins f_points f_outlines_xs f_outlines_ys A post) ([.ref a_this, .int x1] : List Value).toArray s 0 0 A = Qf
  have hl := lv_entry ([.ref a_this, .int x1]) (n := 4) (Nat.le_of_ble_eq_true rfl)
  rw [lg_entry_eq]
  generalize (lg_sl ([.ref a_this, .int x1]) ++ List.replicate (4 - (lg_sl ([.ref a_this, .int x1])).length) Slot.unset).toArray = ls at hl ⊢
  have hl : lv_has ls 4 [(0, .ref a_this), (1, .int x1)] := hl
  unfold wp_G_measure at h
  refine lv_aload_n hx hb d_G_measure_0 rfl (lv_at hl 0 rfl) ?_
  refine va_get (D := (dC, dI)) (ci := 3) (v := .ref a_outlines) (C := R_G) (T := F_G) (N := 11) hx hb hts i_G_in hown hK hP 0 rfl rfl 0 (by decide) (hts _ q_107) (fun _ h9 => h9) rfl d_G_measure_1 ?_
  refine va_get (D := (dC, dI)) (ci := 2) (v := .ref a_outlines_begins) (C := R_U) (T := F_U) (N := 9) hx hb hts i_U_in hown hK hP 1 rfl rfl 3 (by decide) (hts _ q_70) (fun _ h9 => h9) rfl d_G_measure_4 ?_
  refine lv_iload_n hx hb d_G_measure_7 rfl (lv_at hl 1 rfl) ?_
  obtain ⟨hin, h⟩ := h
  refine va_iald hx hb hK hP 2 0 rfl rfl hin d_G_measure_8 ?_
  refine lv_topi (fun x2_9 e_x2_9 => ?_)
  have h := h x2_9 e_x2_9
  refine lv_istore_n (lv' := [(2, .int x2_9), (0, .ref a_this), (1, .int x1)]) hx hb d_G_measure_9 rfl hl (by decide) rfl (fun ls hl => ?_)
  refine lv_iconst (v := 0) hx hb d_G_measure_10 (by decide) ?_
  refine lv_istore_n (lv' := [(3, .int (0 : Int32)), (2, .int x2_9), (0, .ref a_this), (1, .int x1)]) hx hb d_G_measure_11 rfl hl (by decide) rfl (fun ls hl => ?_)
  refine lpW_ind (Wp := fun z => ∀ (H : Heap) (locs : List Loc) (ls : Array Slot), va_P (dC, dI) vwCl (cw_G_measure cB cI a_this a_outlines a_outlines_begins a_xs a_ys a_angles a_turns a_points a_outlines_xs a_outlines_ys a_costs a_rest a_restByTwo a_outlines_picture a_outlines_layers a_outlines_areas a_outlines_walked n_outlines_begins n_xs n_ys n_angles n_turns n_points n_outlines_xs n_outlines_ys c_count c_cost c_outlines_count c_outlines_traced f_outlines_begins z.2.1 z.2.2 f_angles f_turns f_points f_outlines_xs f_outlines_ys) H → va_D A (cw_G_measure cB cI a_this a_outlines a_outlines_begins a_xs a_ys a_angles a_turns a_points a_outlines_xs a_outlines_ys a_costs a_rest a_restByTwo a_outlines_picture a_outlines_layers a_outlines_areas a_outlines_walked n_outlines_begins n_xs n_ys n_angles n_turns n_points n_outlines_xs n_outlines_ys c_count c_cost c_outlines_count c_outlines_traced f_outlines_begins z.2.1 z.2.2 f_angles f_turns f_points f_outlines_xs f_outlines_ys) → va_S A s.heap H locs → lv_has ls 4 [(0, .ref a_this), (2, .int x2_9), (3, .int z.1)] → W p l e (headSpec w_G_measure ({ frames := 3, cells := 0, slots := 0, locals := 73 })).room s m ([.ref a_this, .int x1] : List Value).toArray below meth c H locs 0 0 Qf (F0 m 12 ls [])) h ?_ _ _ _ hP hD hS (lv_sub hl [2, 1, 0] rfl)
  rintro ⟨x3_l12, f_xs_l12, f_ys_l12⟩ back12 h hb12 H locs ls hP hD hS hl
  have h : wp_G_measure_L12 n_outlines_begins n_xs n_ys n_angles n_turns n_points n_outlines_xs n_outlines_ys c_count f_outlines_begins f_points f_outlines_xs f_outlines_ys f_angles f_turns x2_9 post back12 x3_l12 f_xs_l12 f_ys_l12 := h
  have hP : va_P (dC, dI) vwCl (cw_G_measure cB cI a_this a_outlines a_outlines_begins a_xs a_ys a_angles a_turns a_points a_outlines_xs a_outlines_ys a_costs a_rest a_restByTwo a_outlines_picture a_outlines_layers a_outlines_areas a_outlines_walked n_outlines_begins n_xs n_ys n_angles n_turns n_points n_outlines_xs n_outlines_ys c_count c_cost c_outlines_count c_outlines_traced f_outlines_begins f_xs_l12 f_ys_l12 f_angles f_turns f_points f_outlines_xs f_outlines_ys) H := hP
  have hD : va_D A (cw_G_measure cB cI a_this a_outlines a_outlines_begins a_xs a_ys a_angles a_turns a_points a_outlines_xs a_outlines_ys a_costs a_rest a_restByTwo a_outlines_picture a_outlines_layers a_outlines_areas a_outlines_walked n_outlines_begins n_xs n_ys n_angles n_turns n_points n_outlines_xs n_outlines_ys c_count c_cost c_outlines_count c_outlines_traced f_outlines_begins f_xs_l12 f_ys_l12 f_angles f_turns f_points f_outlines_xs f_outlines_ys) := hD
  have hl : lv_has ls 4 [(0, .ref a_this), (2, .int x2_9), (3, .int x3_l12)] := hl
  unfold wp_G_measure_L12 at h
  refine lv_iload_n hx hb d_G_measure_12 rfl (lv_at hl 2 rfl) ?_
  refine lv_aload_n hx hb d_G_measure_13 rfl (lv_at hl 0 rfl) ?_
  refine va_get (D := (dC, dI)) (ci := 3) (v := .int c_count) (C := R_G) (T := F_G) (N := 11) hx hb hts i_G_in hown hK hP 0 rfl rfl 9 (by decide) (hts _ q_125) (fun _ h9 => h9) rfl d_G_measure_14 ?_
  refine lv_icmp_ge (tgt := 70) hx hb d_G_measure_17 (by decide) (fun cc_ => ?_) (fun cc_ => ?_)
  · have h := h.1 cc_
    refine lv_iconst (v := 0) hx hb d_G_measure_70 (by decide) ?_
    refine lv_istore_n (lv' := [(3, .int (0 : Int32)), (0, .ref a_this), (2, .int x2_9)]) hx hb d_G_measure_71 rfl hl (by decide) rfl (fun ls hl => ?_)
    refine lpW_ind (Wp := fun z => ∀ (H : Heap) (locs : List Loc) (ls : Array Slot), va_P (dC, dI) vwCl (cw_G_measure cB cI a_this a_outlines a_outlines_begins a_xs a_ys a_angles a_turns a_points a_outlines_xs a_outlines_ys a_costs a_rest a_restByTwo a_outlines_picture a_outlines_layers a_outlines_areas a_outlines_walked n_outlines_begins n_xs n_ys n_angles n_turns n_points n_outlines_xs n_outlines_ys c_count c_cost c_outlines_count c_outlines_traced f_outlines_begins f_xs_l12 f_ys_l12 z.2.1 z.2.2 f_points f_outlines_xs f_outlines_ys) H → va_D A (cw_G_measure cB cI a_this a_outlines a_outlines_begins a_xs a_ys a_angles a_turns a_points a_outlines_xs a_outlines_ys a_costs a_rest a_restByTwo a_outlines_picture a_outlines_layers a_outlines_areas a_outlines_walked n_outlines_begins n_xs n_ys n_angles n_turns n_points n_outlines_xs n_outlines_ys c_count c_cost c_outlines_count c_outlines_traced f_outlines_begins f_xs_l12 f_ys_l12 z.2.1 z.2.2 f_points f_outlines_xs f_outlines_ys) → va_S A s.heap H locs → lv_has ls 4 [(0, .ref a_this), (3, .int z.1)] → W p l e (headSpec w_G_measure ({ frames := 3, cells := 0, slots := 0, locals := 73 })).room s m ([.ref a_this, .int x1] : List Value).toArray below meth c H locs 0 0 Qf (F0 m 72 ls [])) h ?_ _ _ _ hP hD hS (lv_sub hl [1, 0] rfl)
    rintro ⟨x3_l72, f_angles_l72, f_turns_l72⟩ back72 h hb72 H locs ls hP hD hS hl
    have h : wp_G_measure_L72 n_outlines_begins n_xs n_ys n_angles n_turns n_points n_outlines_xs n_outlines_ys c_count f_outlines_begins f_points f_outlines_xs f_outlines_ys f_xs_l12 f_ys_l12 post back72 x3_l72 f_angles_l72 f_turns_l72 := h
    have hP : va_P (dC, dI) vwCl (cw_G_measure cB cI a_this a_outlines a_outlines_begins a_xs a_ys a_angles a_turns a_points a_outlines_xs a_outlines_ys a_costs a_rest a_restByTwo a_outlines_picture a_outlines_layers a_outlines_areas a_outlines_walked n_outlines_begins n_xs n_ys n_angles n_turns n_points n_outlines_xs n_outlines_ys c_count c_cost c_outlines_count c_outlines_traced f_outlines_begins f_xs_l12 f_ys_l12 f_angles_l72 f_turns_l72 f_points f_outlines_xs f_outlines_ys) H := hP
    have hD : va_D A (cw_G_measure cB cI a_this a_outlines a_outlines_begins a_xs a_ys a_angles a_turns a_points a_outlines_xs a_outlines_ys a_costs a_rest a_restByTwo a_outlines_picture a_outlines_layers a_outlines_areas a_outlines_walked n_outlines_begins n_xs n_ys n_angles n_turns n_points n_outlines_xs n_outlines_ys c_count c_cost c_outlines_count c_outlines_traced f_outlines_begins f_xs_l12 f_ys_l12 f_angles_l72 f_turns_l72 f_points f_outlines_xs f_outlines_ys) := hD
    have hl : lv_has ls 4 [(0, .ref a_this), (3, .int x3_l72)] := hl
    unfold wp_G_measure_L72 at h
    refine lv_iload_n hx hb d_G_measure_72 rfl (lv_at hl 1 rfl) ?_
    refine lv_aload_n hx hb d_G_measure_73 rfl (lv_at hl 0 rfl) ?_
    refine va_get (D := (dC, dI)) (ci := 3) (v := .int c_count) (C := R_G) (T := F_G) (N := 11) hx hb hts i_G_in hown hK hP 0 rfl rfl 9 (by decide) (hts _ q_125) (fun _ h9 => h9) rfl d_G_measure_74 ?_
    refine lv_icmp_ge (tgt := 91) hx hb d_G_measure_77 (by decide) (fun cc_ => ?_) (fun cc_ => ?_)
    · have h := h.1 cc_
      subst hQf
      exact W.vret hx hb hr (fun t ht hW => ⟨⟨(f_xs_l12, f_ys_l12, f_angles_l72, f_turns_l72), rfl, h, by rw [ht]; exact hP, va_K.moved hW.alike hK, hD⟩, hS.F ht⟩) hS.2.2 d_G_measure_91
    · have h := h.2 cc_
      refine lv_aload_n hx hb d_G_measure_80 rfl (lv_at hl 0 rfl) ?_
      refine lv_iload_n hx hb d_G_measure_81 rfl (lv_at hl 1 rfl) ?_
      obtain ⟨Q82, hq82, h⟩ := h
      have hPc := hP.sub (ws' := (cw_G_measureCorner cI a_this a_xs a_ys a_angles a_turns a_outlines a_costs a_rest a_restByTwo a_points n_xs n_ys n_angles n_turns c_count c_cost f_xs_l12 f_ys_l12 f_angles_l72 f_turns_l72)) [0, 3, 4, 5, 6] rfl
      have hDc := hD.sub (ws' := (cw_G_measureCorner cI a_this a_xs a_ys a_angles a_turns a_outlines a_costs a_rest a_restByTwo a_points n_xs n_ys n_angles n_turns c_count c_cost f_xs_l12 f_ys_l12 f_angles_l72 f_turns_l72)) [0, 3, 4, 5, 6] (by decide) rfl
      have hFc := va_free (wc := (cw_G_measureCorner cI a_this a_xs a_ys a_angles a_turns a_outlines a_costs a_rest a_restByTwo a_points n_xs n_ys n_angles n_turns c_count c_cost f_xs_l12 f_ys_l12 f_angles_l72 f_turns_l72)) hD hS hA [0, 3, 4, 5, 6] rfl
      refine va_callv (va_runV (As := [.int x3_l72]) (rest := []) ⟨hx, hb, hml, hown, hts⟩ (c_G_measureCorner l dC dI cI cB cJ cZ a_this a_xs a_ys a_angles a_turns a_outlines a_costs a_rest a_restByTwo a_points H.size n_xs n_ys n_angles n_turns c_count c_cost f_xs_l12 f_ys_l12 f_angles_l72 f_turns_l72 x3_l72 Q82 hq82) (cwV 1 hts (goodV q_530 q_532 q_p19 q_5 q_533) rfl rfl rfl (by decide +kernel) ⟨Nat.le_of_ble_eq_true rfl, Nat.le_of_ble_eq_true rfl⟩) ⟨fun a U g mk q => by obtain ⟨q0, q1, qP, qK, qD⟩ := q; exact ⟨q0, q1, qP, va_K.moved (u := U) (U := U.calling g mk a) (Vm.Alike.refl U.vm) qK, qD⟩, va_recv hK hPc (ci := 3) (q0 := 0) rfl rfl, fun U hU hW => ⟨rfl, by rw [hU], by rw [hU]; exact hPc, va_K.moved hW.alike hK, hDc.weaken (fun _ _ _ _ => trivial)⟩⟩ rfl rfl hl.1 rfl (lv_room (Nat.le_of_ble_eq_true rfl)) d_G_measure_82 ⟨Nat.le_of_ble_eq_true rfl, Nat.le_of_ble_eq_true rfl⟩) hS (fun q _ h => hFc q h) hFc (fun u82 t H1 locs ht hvm hw hB hz1 hk1 hS => ?_)
      obtain ⟨u82_0, u82_1⟩ := u82
      obtain ⟨hP1, -, hD1⟩ := hB
      rw [ht] at hP1
      have h := h u82_0 u82_1 hw
      obtain ⟨hP, hD⟩ := va_join (wr := [(a_outlines, .inr (2, [.ref a_outlines_picture, .ref a_outlines_xs, .ref a_outlines_ys, .ref a_outlines_begins, .ref a_outlines_layers, .ref a_outlines_areas, .ref a_outlines_walked, .int c_outlines_count, .int c_outlines_traced])), (a_outlines_begins, .inl (cI, n_outlines_begins, .inl f_outlines_begins)), (a_points, .inl (cI, n_points, .inl f_points)), (a_outlines_xs, .inl (cB, n_outlines_xs, .inl f_outlines_xs)), (a_outlines_ys, .inl (cB, n_outlines_ys, .inl f_outlines_ys))]) (w1 := (cw_G_measureCorner cI a_this a_xs a_ys a_angles a_turns a_outlines a_costs a_rest a_restByTwo a_points n_xs n_ys n_angles n_turns c_count c_cost f_xs_l12 f_ys_l12 u82_0 u82_1)) hP hD [0, 3, 4, 5, 6] [1, 2, 7, 8, 9] rfl rfl (by decide) (by decide) hk1 hFc hP1 hD1
      clear hP1 hD1 hk1 hPc hDc hFc
      generalize H1 = H at hP hS ⊢
      have hP : va_P (dC, dI) vwCl (cw_G_measure cB cI a_this a_outlines a_outlines_begins a_xs a_ys a_angles a_turns a_points a_outlines_xs a_outlines_ys a_costs a_rest a_restByTwo a_outlines_picture a_outlines_layers a_outlines_areas a_outlines_walked n_outlines_begins n_xs n_ys n_angles n_turns n_points n_outlines_xs n_outlines_ys c_count c_cost c_outlines_count c_outlines_traced f_outlines_begins f_xs_l12 f_ys_l12 u82_0 u82_1 f_points f_outlines_xs f_outlines_ys) H := hP.sub [5, 0, 1, 6, 7, 8, 9, 2, 3, 4] rfl
      have hD : va_D A (cw_G_measure cB cI a_this a_outlines a_outlines_begins a_xs a_ys a_angles a_turns a_points a_outlines_xs a_outlines_ys a_costs a_rest a_restByTwo a_outlines_picture a_outlines_layers a_outlines_areas a_outlines_walked n_outlines_begins n_xs n_ys n_angles n_turns n_points n_outlines_xs n_outlines_ys c_count c_cost c_outlines_count c_outlines_traced f_outlines_begins f_xs_l12 f_ys_l12 u82_0 u82_1 f_points f_outlines_xs f_outlines_ys) := hD.sub [5, 0, 1, 6, 7, 8, 9, 2, 3, 4] (by decide) rfl
      obtain ⟨x3_85, e_x3_85⟩ : ∃ y : Int32, y = x3_l72 + (1 : Int32) := ⟨_, rfl⟩
      have h := h x3_85 e_x3_85
      refine lv_iinc (v := x3_85) (lv' := [(3, .int x3_85), (0, .ref a_this)]) hx hb d_G_measure_85 hl (k := 1) rfl (by rw [e_x3_85]; rfl) (by decide) rfl (fun ls hl => ?_)
      refine lv_goto (tgt := 72) hx hb d_G_measure_88 (by decide) ?_
      exact hb72 _ h _ _ _ hP hD hS (lv_sub hl [1, 0] rfl)
  · have h := h.2 cc_
    refine lv_aload_n hx hb d_G_measure_20 rfl (lv_at hl 0 rfl) ?_
    refine va_get (D := (dC, dI)) (ci := 3) (v := .ref a_xs) (C := R_G) (T := F_G) (N := 11) hx hb hts i_G_in hown hK hP 0 rfl rfl 5 (by decide) (hts _ q_113) (fun _ h9 => h9) rfl d_G_measure_21 ?_
    refine lv_iload_n hx hb d_G_measure_24 rfl (lv_at hl 2 rfl) ?_
    refine lv_aload_n hx hb d_G_measure_25 rfl (lv_at hl 0 rfl) ?_
    refine va_get (D := (dC, dI)) (ci := 3) (v := .ref a_outlines) (C := R_G) (T := F_G) (N := 11) hx hb hts i_G_in hown hK hP 0 rfl rfl 0 (by decide) (hts _ q_107) (fun _ h9 => h9) rfl d_G_measure_26 ?_
    refine va_get (D := (dC, dI)) (ci := 2) (v := .ref a_outlines_xs) (C := R_U) (T := F_U) (N := 9) hx hb hts i_U_in hown hK hP 1 rfl rfl 1 (by decide) (hts _ q_64) (fun _ h9 => h9) rfl d_G_measure_29 ?_
    refine lv_iload_n hx hb d_G_measure_32 rfl (lv_at hl 1 rfl) ?_
    refine lv_aload_n hx hb d_G_measure_33 rfl (lv_at hl 0 rfl) ?_
    refine va_get (D := (dC, dI)) (ci := 3) (v := .ref a_points) (C := R_G) (T := F_G) (N := 11) hx hb hts i_G_in hown hK hP 0 rfl rfl 4 (by decide) (hts _ q_111) (fun _ h9 => h9) rfl d_G_measure_34 ?_
    refine lv_iload_n hx hb d_G_measure_37 rfl (lv_at hl 2 rfl) ?_
    obtain ⟨hin, h⟩ := h
    refine va_iald hx hb hK hP 7 0 rfl rfl hin d_G_measure_38 ?_
    refine lv_iadd hx hb d_G_measure_39 ?_
    obtain ⟨hin, h⟩ := h
    refine va_bald hx hb hK hP 8 1 rfl rfl hin d_G_measure_40 ?_
    obtain ⟨hin, h⟩ := h
    refine va_iast hx hb hK hP hD hS 3 0 rfl rfl hin d_G_measure_41 (fun H locs hP hD hS => ?_)
    obtain ⟨f41, e_f41⟩ : ∃ y : Nat → Int32, y = upd f_xs_l12 x3_l12.toNatClampNeg (f_outlines_xs (x2_9 + (f_points x3_l12.toNatClampNeg)).toNatClampNeg) := ⟨_, rfl⟩
    have h := h f41 e_f41
    have hP : va_P (dC, dI) vwCl (cw_G_measure cB cI a_this a_outlines a_outlines_begins a_xs a_ys a_angles a_turns a_points a_outlines_xs a_outlines_ys a_costs a_rest a_restByTwo a_outlines_picture a_outlines_layers a_outlines_areas a_outlines_walked n_outlines_begins n_xs n_ys n_angles n_turns n_points n_outlines_xs n_outlines_ys c_count c_cost c_outlines_count c_outlines_traced f_outlines_begins f41 f_ys_l12 f_angles f_turns f_points f_outlines_xs f_outlines_ys) H := by rw [e_f41]; exact hP
    have hD : va_D A (cw_G_measure cB cI a_this a_outlines a_outlines_begins a_xs a_ys a_angles a_turns a_points a_outlines_xs a_outlines_ys a_costs a_rest a_restByTwo a_outlines_picture a_outlines_layers a_outlines_areas a_outlines_walked n_outlines_begins n_xs n_ys n_angles n_turns n_points n_outlines_xs n_outlines_ys c_count c_cost c_outlines_count c_outlines_traced f_outlines_begins f41 f_ys_l12 f_angles f_turns f_points f_outlines_xs f_outlines_ys) := by rw [e_f41]; exact hD
    refine lv_aload_n hx hb d_G_measure_42 rfl (lv_at hl 0 rfl) ?_
    refine va_get (D := (dC, dI)) (ci := 3) (v := .ref a_ys) (C := R_G) (T := F_G) (N := 11) hx hb hts i_G_in hown hK hP 0 rfl rfl 6 (by decide) (hts _ q_116) (fun _ h9 => h9) rfl d_G_measure_43 ?_
    refine lv_iload_n hx hb d_G_measure_46 rfl (lv_at hl 2 rfl) ?_
    refine lv_aload_n hx hb d_G_measure_47 rfl (lv_at hl 0 rfl) ?_
    refine va_get (D := (dC, dI)) (ci := 3) (v := .ref a_outlines) (C := R_G) (T := F_G) (N := 11) hx hb hts i_G_in hown hK hP 0 rfl rfl 0 (by decide) (hts _ q_107) (fun _ h9 => h9) rfl d_G_measure_48 ?_
    refine va_get (D := (dC, dI)) (ci := 2) (v := .ref a_outlines_ys) (C := R_U) (T := F_U) (N := 9) hx hb hts i_U_in hown hK hP 1 rfl rfl 2 (by decide) (hts _ q_67) (fun _ h9 => h9) rfl d_G_measure_51 ?_
    refine lv_iload_n hx hb d_G_measure_54 rfl (lv_at hl 1 rfl) ?_
    refine lv_aload_n hx hb d_G_measure_55 rfl (lv_at hl 0 rfl) ?_
    refine va_get (D := (dC, dI)) (ci := 3) (v := .ref a_points) (C := R_G) (T := F_G) (N := 11) hx hb hts i_G_in hown hK hP 0 rfl rfl 4 (by decide) (hts _ q_111) (fun _ h9 => h9) rfl d_G_measure_56 ?_
    refine lv_iload_n hx hb d_G_measure_59 rfl (lv_at hl 2 rfl) ?_
    obtain ⟨hin, h⟩ := h
    refine va_iald hx hb hK hP 7 0 rfl rfl hin d_G_measure_60 ?_
    refine lv_iadd hx hb d_G_measure_61 ?_
    obtain ⟨hin, h⟩ := h
    refine va_bald hx hb hK hP 9 1 rfl rfl hin d_G_measure_62 ?_
    obtain ⟨hin, h⟩ := h
    refine va_iast hx hb hK hP hD hS 4 0 rfl rfl hin d_G_measure_63 (fun H locs hP hD hS => ?_)
    obtain ⟨f63, e_f63⟩ : ∃ y : Nat → Int32, y = upd f_ys_l12 x3_l12.toNatClampNeg (f_outlines_ys (x2_9 + (f_points x3_l12.toNatClampNeg)).toNatClampNeg) := ⟨_, rfl⟩
    have h := h f63 e_f63
    have hP : va_P (dC, dI) vwCl (cw_G_measure cB cI a_this a_outlines a_outlines_begins a_xs a_ys a_angles a_turns a_points a_outlines_xs a_outlines_ys a_costs a_rest a_restByTwo a_outlines_picture a_outlines_layers a_outlines_areas a_outlines_walked n_outlines_begins n_xs n_ys n_angles n_turns n_points n_outlines_xs n_outlines_ys c_count c_cost c_outlines_count c_outlines_traced f_outlines_begins f41 f63 f_angles f_turns f_points f_outlines_xs f_outlines_ys) H := by rw [e_f63]; exact hP
    have hD : va_D A (cw_G_measure cB cI a_this a_outlines a_outlines_begins a_xs a_ys a_angles a_turns a_points a_outlines_xs a_outlines_ys a_costs a_rest a_restByTwo a_outlines_picture a_outlines_layers a_outlines_areas a_outlines_walked n_outlines_begins n_xs n_ys n_angles n_turns n_points n_outlines_xs n_outlines_ys c_count c_cost c_outlines_count c_outlines_traced f_outlines_begins f41 f63 f_angles f_turns f_points f_outlines_xs f_outlines_ys) := by rw [e_f63]; exact hD
    obtain ⟨x3_64, e_x3_64⟩ : ∃ y : Int32, y = x3_l12 + (1 : Int32) := ⟨_, rfl⟩
    have h := h x3_64 e_x3_64
    refine lv_iinc (v := x3_64) (lv' := [(3, .int x3_64), (0, .ref a_this), (2, .int x2_9)]) hx hb d_G_measure_64 hl (k := 2) rfl (by rw [e_x3_64]; rfl) (by decide) rfl (fun ls hl => ?_)
    refine lv_goto (tgt := 12) hx hb d_G_measure_67 (by decide) ?_
    exact hb12 _ h _ _ _ hP hD hS (lv_sub hl [1, 2, 0] rfl)
def wp_G_find_J77 (n_outlines_begins n_points n_outlines_xs n_outlines_ys n_costs n_restByTwo n_rest n_xs n_ys n_angles n_turns : Nat) (f_outlines_begins : Nat → Int32) (f_outlines_xs : Nat → Int32) (f_outlines_ys : Nat → Int32) (c_count : Int32) (c_cost : Int32) (f_points : Nat → Int32) (f_costs : Nat → Int32) (f_restByTwo : Nat → Int32) (f_rest : Nat → Int32) (f_xs : Nat → Int32) (f_ys : Nat → Int32) (f_angles : Nat → Int32) (f_turns : Nat → Int32) (x1 : Int32) (x3 : Int32) (x4 : Int32) (x5 : Int32) (x6 : Int32) (x7 : Int32) (back46 : (Int32 × Int32 × Int32 × (Nat → Int32) × (Nat → Int32)) → Prop) (post : Int32 → (Int32 × Int32 × (Nat → Int32) × (Nat → Int32) × (Nat → Int32) × (Nat → Int32) × (Nat → Int32) × (Nat → Int32) × (Nat → Int32) × (Nat → Int32)) → Prop) : Prop :=
  ∀ x7_77 : Int32, x7_77 = x7 + (1 : Int32) → back46 (x5, x6, x7_77, f_restByTwo, f_rest)
def wp_G_find_L46 (n_outlines_begins n_points n_outlines_xs n_outlines_ys n_costs n_restByTwo n_rest n_xs n_ys n_angles n_turns : Nat) (f_outlines_begins : Nat → Int32) (f_outlines_xs : Nat → Int32) (f_outlines_ys : Nat → Int32) (c_count : Int32) (c_cost : Int32) (f_points : Nat → Int32) (f_costs : Nat → Int32) (f_xs : Nat → Int32) (f_ys : Nat → Int32) (f_angles : Nat → Int32) (f_turns : Nat → Int32) (x1 : Int32) (x3 : Int32) (x4 : Int32) (post : Int32 → (Int32 × Int32 × (Nat → Int32) × (Nat → Int32) × (Nat → Int32) × (Nat → Int32) × (Nat → Int32) × (Nat → Int32) × (Nat → Int32) × (Nat → Int32)) → Prop) (back46 : (Int32 × Int32 × Int32 × (Nat → Int32) × (Nat → Int32)) → Prop) (x5 : Int32) (x6 : Int32) (x7 : Int32) (f_restByTwo : Nat → Int32) (f_rest : Nat → Int32) : Prop :=
  (x4 ≤ x7 → ∃ Q87 : Int32 → ((Nat → Int32) × (Nat → Int32)) → Prop, wp_G_weighFrom n_costs n_restByTwo n_rest f_costs f_restByTwo f_rest x5 x3 Q87 ∧ ∀ (r87 : Int32) (u87_0 : Nat → Int32) (u87_1 : Nat → Int32), Q87 r87 (u87_0, u87_1) → ∃ Q97 : (Int32 × (Nat → Int32)) → Prop, wp_G_follow n_points n_costs n_restByTwo n_rest c_count f_points f_costs u87_0 u87_1 x5 x3 x6 Q97 ∧ ∀ (u97_0 : Int32) (u97_1 : Nat → Int32), Q97 (u97_0, u97_1) → ∃ Q102 : ((Nat → Int32) × (Nat → Int32) × (Nat → Int32) × (Nat → Int32)) → Prop, wp_G_measure n_outlines_begins n_xs n_ys n_angles n_turns n_points n_outlines_xs n_outlines_ys u97_0 f_outlines_begins f_xs f_ys f_angles f_turns u97_1 f_outlines_xs f_outlines_ys x1 Q102 ∧ ∀ (u102_0 : Nat → Int32) (u102_1 : Nat → Int32) (u102_2 : Nat → Int32) (u102_3 : Nat → Int32), Q102 (u102_0, u102_1, u102_2, u102_3) → ∀ v111 : Int32, v111 = (x6 &&& (262143 : Int32)) → post u97_0 (u97_0, v111, u97_1, f_costs, u87_0, u87_1, u102_0, u102_1, u102_2, u102_3)) ∧ (¬ x4 ≤ x7 → ∃ Q57 : Int32 → ((Nat → Int32) × (Nat → Int32)) → Prop, wp_G_weighFrom n_costs n_restByTwo n_rest f_costs f_restByTwo f_rest x7 x3 Q57 ∧ ∀ (r57 : Int32) (u57_0 : Nat → Int32) (u57_1 : Nat → Int32), Q57 r57 (u57_0, u57_1) → (x6 ≤ r57 → wp_G_find_J77 n_outlines_begins n_points n_outlines_xs n_outlines_ys n_costs n_restByTwo n_rest n_xs n_ys n_angles n_turns f_outlines_begins f_outlines_xs f_outlines_ys c_count c_cost f_points f_costs u57_0 u57_1 f_xs f_ys f_angles f_turns x1 x3 x4 x5 x6 x7 back46 post) ∧ (¬ x6 ≤ r57 → wp_G_find_J77 n_outlines_begins n_points n_outlines_xs n_outlines_ys n_costs n_restByTwo n_rest n_xs n_ys n_angles n_turns f_outlines_begins f_outlines_xs f_outlines_ys c_count c_cost f_points f_costs u57_0 u57_1 f_xs f_ys f_angles f_turns x1 x3 x4 x7 r57 x7 back46 post))
def wp_G_find (n_outlines_begins n_points n_outlines_xs n_outlines_ys n_costs n_restByTwo n_rest n_xs n_ys n_angles n_turns : Nat) (c_count : Int32) (c_cost : Int32) (f_outlines_begins : Nat → Int32) (f_points : Nat → Int32) (f_outlines_xs : Nat → Int32) (f_outlines_ys : Nat → Int32) (f_costs : Nat → Int32) (f_restByTwo : Nat → Int32) (f_rest : Nat → Int32) (f_xs : Nat → Int32) (f_ys : Nat → Int32) (f_angles : Nat → Int32) (f_turns : Nat → Int32) (x1 : Int32) (x2 : Int32) (post : Int32 → (Int32 × Int32 × (Nat → Int32) × (Nat → Int32) × (Nat → Int32) × (Nat → Int32) × (Nat → Int32) × (Nat → Int32) × (Nat → Int32) × (Nat → Int32)) → Prop) : Prop :=
  ∃ Q5 : Int32 → Unit → Prop, wp_U_length n_outlines_begins f_outlines_begins x1 Q5 ∧ ∀ (r5 : Int32), Q5 r5 () → ∀ x3_16 : Int32, x3_16 = (jmin r5 (Int32.ofNat n_points)) → ∃ Q21 : (Nat → Int32) → Prop, wp_G_weighPieces n_outlines_begins n_outlines_xs n_outlines_ys n_costs f_outlines_begins f_outlines_xs f_outlines_ys f_costs x1 x3_16 x2 Q21 ∧ ∀ (u21_0 : Nat → Int32), Q21 u21_0 → ∀ x4_34 : Int32, x4_34 = (jmin (24 : Int32) ((x3_16 - (3 : Int32)) + (1 : Int32))) → lpW (fun b z => wp_G_find_L46 n_outlines_begins n_points n_outlines_xs n_outlines_ys n_costs n_restByTwo n_rest n_xs n_ys n_angles n_turns f_outlines_begins f_outlines_xs f_outlines_ys c_count c_cost f_points u21_0 f_xs f_ys f_angles f_turns x1 x3_16 x4_34 post b z.1 z.2.1 z.2.2.1 z.2.2.2.1 z.2.2.2.2) ((0 : Int32), (1073741824 : Int32), (0 : Int32), f_restByTwo, f_rest)
abbrev cw_G_find (cB cI : ClassId) (a_this a_outlines a_outlines_begins a_points a_outlines_xs a_outlines_ys a_costs a_restByTwo a_rest a_xs a_ys a_angles a_turns a_outlines_picture a_outlines_layers a_outlines_areas a_outlines_walked : Nat) (n_outlines_begins n_points n_outlines_xs n_outlines_ys n_costs n_restByTwo n_rest n_xs n_ys n_angles n_turns : Nat) (c_count : Int32) (c_cost : Int32) (c_outlines_count : Int32) (c_outlines_traced : Int32) (f_outlines_begins : Nat → Int32) (f_points : Nat → Int32) (f_outlines_xs : Nat → Int32) (f_outlines_ys : Nat → Int32) (f_costs : Nat → Int32) (f_restByTwo : Nat → Int32) (f_rest : Nat → Int32) (f_xs : Nat → Int32) (f_ys : Nat → Int32) (f_angles : Nat → Int32) (f_turns : Nat → Int32) : va_W := [(a_this, .inr (3, [.ref a_outlines, .ref a_costs, .ref a_rest, .ref a_restByTwo, .ref a_points, .ref a_xs, .ref a_ys, .ref a_angles, .ref a_turns, .int c_count, .int c_cost])), (a_outlines, .inr (2, [.ref a_outlines_picture, .ref a_outlines_xs, .ref a_outlines_ys, .ref a_outlines_begins, .ref a_outlines_layers, .ref a_outlines_areas, .ref a_outlines_walked, .int c_outlines_count, .int c_outlines_traced])), (a_outlines_begins, .inl (cI, n_outlines_begins, .inl f_outlines_begins)), (a_points, .inl (cI, n_points, .inl f_points)), (a_outlines_xs, .inl (cB, n_outlines_xs, .inl f_outlines_xs)), (a_outlines_ys, .inl (cB, n_outlines_ys, .inl f_outlines_ys)), (a_costs, .inl (cI, n_costs, .inl f_costs)), (a_restByTwo, .inl (cI, n_restByTwo, .inl f_restByTwo)), (a_rest, .inl (cI, n_rest, .inl f_rest)), (a_xs, .inl (cI, n_xs, .inl f_xs)), (a_ys, .inl (cI, n_ys, .inl f_ys)), (a_angles, .inl (cI, n_angles, .inl f_angles)), (a_turns, .inl (cI, n_turns, .inl f_turns))]
abbrev qq_G_find (dC : Nat → ClassId) (dI : Nat → Nat → Nat) (cI cB cJ cZ : ClassId) (a_this a_outlines a_outlines_begins a_points a_outlines_xs a_outlines_ys a_costs a_restByTwo a_rest a_xs a_ys a_angles a_turns a_outlines_picture a_outlines_layers a_outlines_areas a_outlines_walked : Nat) (n_outlines_begins n_points n_outlines_xs n_outlines_ys n_costs n_restByTwo n_rest n_xs n_ys n_angles n_turns : Nat) (c_outlines_count : Int32) (c_outlines_traced : Int32) (f_outlines_begins : Nat → Int32) (f_outlines_xs : Nat → Int32) (f_outlines_ys : Nat → Int32) (A : Nat → Prop) (post : Int32 → (Int32 × Int32 × (Nat → Int32) × (Nat → Int32) × (Nat → Int32) × (Nat → Int32) × (Nat → Int32) × (Nat → Int32) × (Nat → Int32) × (Nat → Int32)) → Prop) : Array Value → State → Outcome → State → Prop := va_Qi post (fun u t => va_P (dC, dI) vwCl (cw_G_find cB cI a_this a_outlines a_outlines_begins a_points a_outlines_xs a_outlines_ys a_costs a_restByTwo a_rest a_xs a_ys a_angles a_turns a_outlines_picture a_outlines_layers a_outlines_areas a_outlines_walked n_outlines_begins n_points n_outlines_xs n_outlines_ys n_costs n_restByTwo n_rest n_xs n_ys n_angles n_turns u.1 u.2.1 c_outlines_count c_outlines_traced f_outlines_begins u.2.2.1 f_outlines_xs f_outlines_ys u.2.2.2.1 u.2.2.2.2.1 u.2.2.2.2.2.1 u.2.2.2.2.2.2.1 u.2.2.2.2.2.2.2.1 u.2.2.2.2.2.2.2.2.1 u.2.2.2.2.2.2.2.2.2) t.heap ∧ va_K (dC, dI) vwCl [(cI, .int), (cB, .byte), (cJ, .long), (cZ, .boolean)] t ∧ va_D A (cw_G_find cB cI a_this a_outlines a_outlines_begins a_points a_outlines_xs a_outlines_ys a_costs a_restByTwo a_rest a_xs a_ys a_angles a_turns a_outlines_picture a_outlines_layers a_outlines_areas a_outlines_walked n_outlines_begins n_points n_outlines_xs n_outlines_ys n_costs n_restByTwo n_rest n_xs n_ys n_angles n_turns u.1 u.2.1 c_outlines_count c_outlines_traced f_outlines_begins u.2.2.1 f_outlines_xs f_outlines_ys u.2.2.2.1 u.2.2.2.2.1 u.2.2.2.2.2.1 u.2.2.2.2.2.2.1 u.2.2.2.2.2.2.2.1 u.2.2.2.2.2.2.2.2.1 u.2.2.2.2.2.2.2.2.2)) A
set_option maxHeartbeats 4000000 in
set_option maxRecDepth 100000 in
theorem c_G_find (l : Launch) (dC : Nat → ClassId) (dI : Nat → Nat → Nat) (cI cB cJ cZ : ClassId) (a_this a_outlines a_outlines_begins a_points a_outlines_xs a_outlines_ys a_costs a_restByTwo a_rest a_xs a_ys a_angles a_turns a_outlines_picture a_outlines_layers a_outlines_areas a_outlines_walked : Nat) (sz : Nat) (n_outlines_begins n_points n_outlines_xs n_outlines_ys n_costs n_restByTwo n_rest n_xs n_ys n_angles n_turns : Nat) (c_count : Int32) (c_cost : Int32) (c_outlines_count : Int32) (c_outlines_traced : Int32) (f_outlines_begins : Nat → Int32) (f_points : Nat → Int32) (f_outlines_xs : Nat → Int32) (f_outlines_ys : Nat → Int32) (f_costs : Nat → Int32) (f_restByTwo : Nat → Int32) (f_rest : Nat → Int32) (f_xs : Nat → Int32) (f_ys : Nat → Int32) (f_angles : Nat → Int32) (f_turns : Nat → Int32) (x1 : Int32) (x2 : Int32) (post : Int32 → (Int32 × Int32 × (Nat → Int32) × (Nat → Int32) × (Nat → Int32) × (Nat → Int32) × (Nat → Int32) × (Nat → Int32) × (Nat → Int32) × (Nat → Int32)) → Prop) (h : wp_G_find n_outlines_begins n_points n_outlines_xs n_outlines_ys n_costs n_restByTwo n_rest n_xs n_ys n_angles n_turns c_count c_cost f_outlines_begins f_points f_outlines_xs f_outlines_ys f_costs f_restByTwo f_rest f_xs f_ys f_angles f_turns x1 x2 post) : Met l y_G_find w_G_find ({ frames := 4, cells := 0, slots := 0, locals := 96 }) (va_Pc [.ref a_this, .int x1, .int x2] (fun U => U.heap.size = sz ∧ va_P (dC, dI) vwCl (cw_G_find cB cI a_this a_outlines a_outlines_begins a_points a_outlines_xs a_outlines_ys a_costs a_restByTwo a_rest a_xs a_ys a_angles a_turns a_outlines_picture a_outlines_layers a_outlines_areas a_outlines_walked n_outlines_begins n_points n_outlines_xs n_outlines_ys n_costs n_restByTwo n_rest n_xs n_ys n_angles n_turns c_count c_cost c_outlines_count c_outlines_traced f_outlines_begins f_points f_outlines_xs f_outlines_ys f_costs f_restByTwo f_rest f_xs f_ys f_angles f_turns) U.heap ∧ va_K (dC, dI) vwCl [(cI, .int), (cB, .byte), (cJ, .long), (cZ, .boolean)] U ∧ va_D (fun _ => True) (cw_G_find cB cI a_this a_outlines a_outlines_begins a_points a_outlines_xs a_outlines_ys a_costs a_restByTwo a_rest a_xs a_ys a_angles a_turns a_outlines_picture a_outlines_layers a_outlines_areas a_outlines_walked n_outlines_begins n_points n_outlines_xs n_outlines_ys n_costs n_restByTwo n_rest n_xs n_ys n_angles n_turns c_count c_cost c_outlines_count c_outlines_traced f_outlines_begins f_points f_outlines_xs f_outlines_ys f_costs f_restByTwo f_rest f_xs f_ys f_angles f_turns))) (qq_G_find dC dI cI cB cJ cZ a_this a_outlines a_outlines_begins a_points a_outlines_xs a_outlines_ys a_costs a_restByTwo a_rest a_xs a_ys a_angles a_turns a_outlines_picture a_outlines_layers a_outlines_areas a_outlines_walked n_outlines_begins n_points n_outlines_xs n_outlines_ys n_costs n_restByTwo n_rest n_xs n_ys n_angles n_turns c_outlines_count c_outlines_traced f_outlines_begins f_outlines_xs f_outlines_ys (va_A (cw_G_find cB cI a_this a_outlines a_outlines_begins a_points a_outlines_xs a_outlines_ys a_costs a_restByTwo a_rest a_xs a_ys a_angles a_turns a_outlines_picture a_outlines_layers a_outlines_areas a_outlines_walked n_outlines_begins n_points n_outlines_xs n_outlines_ys n_costs n_restByTwo n_rest n_xs n_ys n_angles n_turns c_count c_cost c_outlines_count c_outlines_traced f_outlines_begins f_points f_outlines_xs f_outlines_ys f_costs f_restByTwo f_rest f_xs f_ys f_angles f_turns) sz) post) 0 0 (va_A (cw_G_find cB cI a_this a_outlines a_outlines_begins a_points a_outlines_xs a_outlines_ys a_costs a_restByTwo a_rest a_xs a_ys a_angles a_turns a_outlines_picture a_outlines_layers a_outlines_areas a_outlines_walked n_outlines_begins n_points n_outlines_xs n_outlines_ys n_costs n_restByTwo n_rest n_xs n_ys n_angles n_turns c_count c_cost c_outlines_count c_outlines_traced f_outlines_begins f_points f_outlines_xs f_outlines_ys f_costs f_restByTwo f_rest f_xs f_ys f_angles f_turns) sz) := by
  refine Met.ofW (cc := b_G_find) (maxL := 9) (ret := (some .int)) (by decide +kernel) rfl ?_
  intro p e s m args below meth c s₁ B hml hv
  obtain ⟨rfl, hsz, hP, hK, hD0⟩ := hv
  have hx := B.exec
  have hb := B.bytes
  have hr := B.returns
  have hts : ∀ w ∈ allW, w.before _ s = true := fun w hw => atoms_spec (ws := w_G_find) B.pre w (List.mem_cons_of_mem _ hw)
  have hown : s.vm.findClass R_G = some m.cls := findClass_of_methodNamed B.named
  have hlocks := B.notSynchronized
  subst hsz
  have hD := hD0.self (sz := s.heap.size)
  generalize hAe : va_A (cw_G_find cB cI a_this a_outlines a_outlines_begins a_points a_outlines_xs a_outlines_ys a_costs a_restByTwo a_rest a_xs a_ys a_angles a_turns a_outlines_picture a_outlines_layers a_outlines_areas a_outlines_walked n_outlines_begins n_points n_outlines_xs n_outlines_ys n_costs n_restByTwo n_rest n_xs n_ys n_angles n_turns c_count c_cost c_outlines_count c_outlines_traced f_outlines_begins f_points f_outlines_xs f_outlines_ys f_costs f_restByTwo f_rest f_xs f_ys f_angles f_turns) s.heap.size = A at hD ⊢
  have hA : ∀ q : Nat, s.heap.size ≤ q → A q := fun q h => by rw [← hAe]; exact Or.inr h
  have hS : va_S A s.heap s.heap [] := va_S.rf
  clear hD0
  generalize hQf : MQ below (qq_G_find dC dI cI cB cJ cZ a_this a_outlines a_outlines_begins a_points a_outlines_xs a_outlines_ys a_costs a_restByTwo a_rest a_xs a_ys a_angles a_turns a_outlines_picture a_outlines_layers a_outlines_areas a_outlines_walked n_outlines_begins n_points n_outlines_xs n_outlines_ys n_costs n_restByTwo n_rest n_xs n_ys n_angles n_turns c_outlines_count c_outlines_traced f_outlines_begins f_outlines_xs f_outlines_ys A post) ([.ref a_this, .int x1, .int x2] : List Value).toArray s 0 0 A = Qf
  have hl := lv_entry ([.ref a_this, .int x1, .int x2]) (n := 9) (Nat.le_of_ble_eq_true rfl)
  rw [lg_entry_eq]
  generalize (lg_sl ([.ref a_this, .int x1, .int x2]) ++ List.replicate (9 - (lg_sl ([.ref a_this, .int x1, .int x2])).length) Slot.unset).toArray = ls at hl ⊢
  have hl : lv_has ls 9 [(0, .ref a_this), (1, .int x1), (2, .int x2)] := hl
  unfold wp_G_find at h
  refine lv_aload_n hx hb d_G_find_0 rfl (lv_at hl 0 rfl) ?_
  refine va_get (D := (dC, dI)) (ci := 3) (v := .ref a_outlines) (C := R_G) (T := F_G) (N := 11) hx hb hts i_G_in hown hK hP 0 rfl rfl 0 (by decide) (hts _ q_107) (fun _ h9 => h9) rfl d_G_find_1 ?_
  refine lv_iload_n hx hb d_G_find_4 rfl (lv_at hl 1 rfl) ?_
  obtain ⟨Q5, hq5, h⟩ := h
  have hPc := hP.sub (ws' := (cw_U_length cI a_outlines a_outlines_begins a_outlines_picture a_outlines_xs a_outlines_ys a_outlines_layers a_outlines_areas a_outlines_walked n_outlines_begins c_outlines_count c_outlines_traced f_outlines_begins)) [1, 2] rfl
  have hDc := hD.sub (ws' := (cw_U_length cI a_outlines a_outlines_begins a_outlines_picture a_outlines_xs a_outlines_ys a_outlines_layers a_outlines_areas a_outlines_walked n_outlines_begins c_outlines_count c_outlines_traced f_outlines_begins)) [1, 2] (by decide) rfl
  have hFc := va_free (wc := (cw_U_length cI a_outlines a_outlines_begins a_outlines_picture a_outlines_xs a_outlines_ys a_outlines_layers a_outlines_areas a_outlines_walked n_outlines_begins c_outlines_count c_outlines_traced f_outlines_begins)) hD hS hA [1, 2] rfl
  refine va_calli (va_runV (As := [.int x1]) (rest := []) ⟨hx, hb, hml, hown, hts⟩ (c_U_length l dC dI cI cB cJ cZ a_outlines a_outlines_begins a_outlines_picture a_outlines_xs a_outlines_ys a_outlines_layers a_outlines_areas a_outlines_walked s.heap.size n_outlines_begins c_outlines_count c_outlines_traced f_outlines_begins x1 Q5 hq5) (cwV 1 hts (goodV q_497 q_435 q_436 q_4 q_437) rfl rfl rfl (by decide +kernel) ⟨Nat.le_of_ble_eq_true rfl, Nat.le_of_ble_eq_true rfl⟩) ⟨fun a U g mk q => by obtain ⟨q0, q1, qP, qK, qD⟩ := q; exact ⟨q0, q1, qP, va_K.moved (u := U) (U := U.calling g mk a) (Vm.Alike.refl U.vm) qK, qD⟩, va_recv hK hPc (ci := 2) (q0 := 0) rfl rfl, fun U hU hW => ⟨rfl, by rw [hU], by rw [hU]; exact hPc, va_K.moved hW.alike hK, hDc.weaken (fun _ _ _ _ => trivial)⟩⟩ rfl rfl hl.1 rfl (lv_room (Nat.le_of_ble_eq_true rfl)) d_G_find_5 ⟨Nat.le_of_ble_eq_true rfl, Nat.le_of_ble_eq_true rfl⟩) hS (fun q _ h => hFc q h) hFc (fun r5 u5 t H1 locs ht hvm hw hB hz1 hk1 hS => ?_)
  cases u5
  obtain ⟨hP1, -, hD1⟩ := hB
  rw [ht] at hP1
  have h := h r5 hw
  obtain ⟨hP, hD⟩ := va_join (wr := [(a_this, .inr (3, [.ref a_outlines, .ref a_costs, .ref a_rest, .ref a_restByTwo, .ref a_points, .ref a_xs, .ref a_ys, .ref a_angles, .ref a_turns, .int c_count, .int c_cost])), (a_points, .inl (cI, n_points, .inl f_points)), (a_outlines_xs, .inl (cB, n_outlines_xs, .inl f_outlines_xs)), (a_outlines_ys, .inl (cB, n_outlines_ys, .inl f_outlines_ys)), (a_costs, .inl (cI, n_costs, .inl f_costs)), (a_restByTwo, .inl (cI, n_restByTwo, .inl f_restByTwo)), (a_rest, .inl (cI, n_rest, .inl f_rest)), (a_xs, .inl (cI, n_xs, .inl f_xs)), (a_ys, .inl (cI, n_ys, .inl f_ys)), (a_angles, .inl (cI, n_angles, .inl f_angles)), (a_turns, .inl (cI, n_turns, .inl f_turns))]) (w1 := (cw_U_length cI a_outlines a_outlines_begins a_outlines_picture a_outlines_xs a_outlines_ys a_outlines_layers a_outlines_areas a_outlines_walked n_outlines_begins c_outlines_count c_outlines_traced f_outlines_begins)) hP hD [1, 2] [0, 3, 4, 5, 6, 7, 8, 9, 10, 11, 12] rfl rfl (by decide) (by decide) hk1 hFc hP1 hD1
  clear hP1 hD1 hk1 hPc hDc hFc
  generalize H1 = H at hP hS ⊢
  have hP : va_P (dC, dI) vwCl (cw_G_find cB cI a_this a_outlines a_outlines_begins a_points a_outlines_xs a_outlines_ys a_costs a_restByTwo a_rest a_xs a_ys a_angles a_turns a_outlines_picture a_outlines_layers a_outlines_areas a_outlines_walked n_outlines_begins n_points n_outlines_xs n_outlines_ys n_costs n_restByTwo n_rest n_xs n_ys n_angles n_turns c_count c_cost c_outlines_count c_outlines_traced f_outlines_begins f_points f_outlines_xs f_outlines_ys f_costs f_restByTwo f_rest f_xs f_ys f_angles f_turns) H := hP.sub [0, 11, 12, 1, 2, 3, 4, 5, 6, 7, 8, 9, 10] rfl
  have hD : va_D A (cw_G_find cB cI a_this a_outlines a_outlines_begins a_points a_outlines_xs a_outlines_ys a_costs a_restByTwo a_rest a_xs a_ys a_angles a_turns a_outlines_picture a_outlines_layers a_outlines_areas a_outlines_walked n_outlines_begins n_points n_outlines_xs n_outlines_ys n_costs n_restByTwo n_rest n_xs n_ys n_angles n_turns c_count c_cost c_outlines_count c_outlines_traced f_outlines_begins f_points f_outlines_xs f_outlines_ys f_costs f_restByTwo f_rest f_xs f_ys f_angles f_turns) := hD.sub [0, 11, 12, 1, 2, 3, 4, 5, 6, 7, 8, 9, 10] (by decide) rfl
  refine lv_aload_n hx hb d_G_find_8 rfl (lv_at hl 0 rfl) ?_
  refine va_get (D := (dC, dI)) (ci := 3) (v := .ref a_points) (C := R_G) (T := F_G) (N := 11) hx hb hts i_G_in hown hK hP 0 rfl rfl 4 (by decide) (hts _ q_111) (fun _ h9 => h9) rfl d_G_find_9 ?_
  refine va_alen hx hb hK hP 3 0 rfl rfl (v := (Int32.ofNat n_points)) rfl d_G_find_12 ?_
  refine va_mmin hx hb (hml.trans hl.1.symm) hown (hts _ q_498) (hts _ q_31) (hts _ q_3) (hts _ q_32) (Nat.le_of_ble_eq_true rfl) (Nat.le_of_ble_eq_true rfl) (Nat.zero_le _) (Nat.zero_le _) d_G_find_13 ?_
  refine W.eq (g2 := F0 m 16 ls [.int (jmin r5 (Int32.ofNat n_points))]) rfl ?_
  refine lv_topi (fun x3_16 e_x3_16 => ?_)
  have h := h x3_16 e_x3_16
  refine lv_istore_n (lv' := [(3, .int x3_16), (0, .ref a_this), (1, .int x1), (2, .int x2)]) hx hb d_G_find_16 rfl hl (by decide) rfl (fun ls hl => ?_)
  refine lv_aload_n hx hb d_G_find_17 rfl (lv_at hl 1 rfl) ?_
  refine lv_iload_n hx hb d_G_find_18 rfl (lv_at hl 2 rfl) ?_
  refine lv_iload_n hx hb d_G_find_19 rfl (lv_at hl 0 rfl) ?_
  refine lv_iload_n hx hb d_G_find_20 rfl (lv_at hl 3 rfl) ?_
  obtain ⟨Q21, hq21, h⟩ := h
  have hPc := hP.sub (ws' := (cw_G_weighPieces cB cI a_this a_outlines a_outlines_begins a_outlines_xs a_outlines_ys a_costs a_rest a_restByTwo a_points a_xs a_ys a_angles a_turns a_outlines_picture a_outlines_layers a_outlines_areas a_outlines_walked n_outlines_begins n_outlines_xs n_outlines_ys n_costs c_count c_cost c_outlines_count c_outlines_traced f_outlines_begins f_outlines_xs f_outlines_ys f_costs)) [0, 1, 2, 4, 5, 6] rfl
  have hDc := hD.sub (ws' := (cw_G_weighPieces cB cI a_this a_outlines a_outlines_begins a_outlines_xs a_outlines_ys a_costs a_rest a_restByTwo a_points a_xs a_ys a_angles a_turns a_outlines_picture a_outlines_layers a_outlines_areas a_outlines_walked n_outlines_begins n_outlines_xs n_outlines_ys n_costs c_count c_cost c_outlines_count c_outlines_traced f_outlines_begins f_outlines_xs f_outlines_ys f_costs)) [0, 1, 2, 4, 5, 6] (by decide) rfl
  have hFc := va_free (wc := (cw_G_weighPieces cB cI a_this a_outlines a_outlines_begins a_outlines_xs a_outlines_ys a_costs a_rest a_restByTwo a_points a_xs a_ys a_angles a_turns a_outlines_picture a_outlines_layers a_outlines_areas a_outlines_walked n_outlines_begins n_outlines_xs n_outlines_ys n_costs c_count c_cost c_outlines_count c_outlines_traced f_outlines_begins f_outlines_xs f_outlines_ys f_costs)) hD hS hA [0, 1, 2, 4, 5, 6] rfl
  refine va_callv (va_runV (As := [.int x1, .int x3_16, .int x2]) (rest := []) ⟨hx, hb, hml, hown, hts⟩ (c_G_weighPieces l dC dI cI cB cJ cZ a_this a_outlines a_outlines_begins a_outlines_xs a_outlines_ys a_costs a_rest a_restByTwo a_points a_xs a_ys a_angles a_turns a_outlines_picture a_outlines_layers a_outlines_areas a_outlines_walked H.size n_outlines_begins n_outlines_xs n_outlines_ys n_costs c_count c_cost c_outlines_count c_outlines_traced f_outlines_begins f_outlines_xs f_outlines_ys f_costs x1 x3_16 x2 Q21 hq21) (cwV 3 hts (goodV q_499 q_501 q_p12 q_5 q_502) rfl rfl rfl (by decide +kernel) ⟨Nat.le_of_ble_eq_true rfl, Nat.le_of_ble_eq_true rfl⟩) ⟨fun a U g mk q => by obtain ⟨q0, q1, qP, qK, qD⟩ := q; exact ⟨q0, q1, qP, va_K.moved (u := U) (U := U.calling g mk a) (Vm.Alike.refl U.vm) qK, qD⟩, va_recv hK hPc (ci := 3) (q0 := 0) rfl rfl, fun U hU hW => ⟨rfl, by rw [hU], by rw [hU]; exact hPc, va_K.moved hW.alike hK, hDc.weaken (fun _ _ _ _ => trivial)⟩⟩ rfl rfl hl.1 rfl (lv_room (Nat.le_of_ble_eq_true rfl)) d_G_find_21 ⟨Nat.le_of_ble_eq_true rfl, Nat.le_of_ble_eq_true rfl⟩) hS (fun q _ h => hFc q h) hFc (fun u21 t H1 locs ht hvm hw hB hz1 hk1 hS => ?_)
  obtain ⟨u21_0, rfl⟩ : ∃ z, z = u21 := ⟨_, rfl⟩
  obtain ⟨hP1, -, hD1⟩ := hB
  rw [ht] at hP1
  have h := h u21_0 hw
  obtain ⟨hP, hD⟩ := va_join (wr := [(a_points, .inl (cI, n_points, .inl f_points)), (a_restByTwo, .inl (cI, n_restByTwo, .inl f_restByTwo)), (a_rest, .inl (cI, n_rest, .inl f_rest)), (a_xs, .inl (cI, n_xs, .inl f_xs)), (a_ys, .inl (cI, n_ys, .inl f_ys)), (a_angles, .inl (cI, n_angles, .inl f_angles)), (a_turns, .inl (cI, n_turns, .inl f_turns))]) (w1 := (cw_G_weighPieces cB cI a_this a_outlines a_outlines_begins a_outlines_xs a_outlines_ys a_costs a_rest a_restByTwo a_points a_xs a_ys a_angles a_turns a_outlines_picture a_outlines_layers a_outlines_areas a_outlines_walked n_outlines_begins n_outlines_xs n_outlines_ys n_costs c_count c_cost c_outlines_count c_outlines_traced f_outlines_begins f_outlines_xs f_outlines_ys u21_0)) hP hD [0, 1, 2, 4, 5, 6] [3, 7, 8, 9, 10, 11, 12] rfl rfl (by decide) (by decide) hk1 hFc hP1 hD1
  clear hP1 hD1 hk1 hPc hDc hFc
  generalize H1 = H at hP hS ⊢
  have hP : va_P (dC, dI) vwCl (cw_G_find cB cI a_this a_outlines a_outlines_begins a_points a_outlines_xs a_outlines_ys a_costs a_restByTwo a_rest a_xs a_ys a_angles a_turns a_outlines_picture a_outlines_layers a_outlines_areas a_outlines_walked n_outlines_begins n_points n_outlines_xs n_outlines_ys n_costs n_restByTwo n_rest n_xs n_ys n_angles n_turns c_count c_cost c_outlines_count c_outlines_traced f_outlines_begins f_points f_outlines_xs f_outlines_ys u21_0 f_restByTwo f_rest f_xs f_ys f_angles f_turns) H := hP.sub [7, 8, 9, 0, 10, 11, 12, 1, 2, 3, 4, 5, 6] rfl
  have hD : va_D A (cw_G_find cB cI a_this a_outlines a_outlines_begins a_points a_outlines_xs a_outlines_ys a_costs a_restByTwo a_rest a_xs a_ys a_angles a_turns a_outlines_picture a_outlines_layers a_outlines_areas a_outlines_walked n_outlines_begins n_points n_outlines_xs n_outlines_ys n_costs n_restByTwo n_rest n_xs n_ys n_angles n_turns c_count c_cost c_outlines_count c_outlines_traced f_outlines_begins f_points f_outlines_xs f_outlines_ys u21_0 f_restByTwo f_rest f_xs f_ys f_angles f_turns) := hD.sub [7, 8, 9, 0, 10, 11, 12, 1, 2, 3, 4, 5, 6] (by decide) rfl
  refine lv_bipush (v := 24) hx hb d_G_find_24 (by decide) ?_
  refine lv_iload_n hx hb d_G_find_26 rfl (lv_at hl 0 rfl) ?_
  refine lv_iconst (v := 3) hx hb d_G_find_27 (by decide) ?_
  refine lv_isub hx hb d_G_find_28 ?_
  refine lv_iconst (v := 1) hx hb d_G_find_29 (by decide) ?_
  refine lv_iadd hx hb d_G_find_30 ?_
  refine va_mmin hx hb (hml.trans hl.1.symm) hown (hts _ q_498) (hts _ q_31) (hts _ q_3) (hts _ q_32) (Nat.le_of_ble_eq_true rfl) (Nat.le_of_ble_eq_true rfl) (Nat.zero_le _) (Nat.zero_le _) d_G_find_31 ?_
  refine W.eq (g2 := F0 m 34 ls [.int (jmin (24 : Int32) ((x3_16 - (3 : Int32)) + (1 : Int32)))]) rfl ?_
  refine lv_topi (fun x4_34 e_x4_34 => ?_)
  have h := h x4_34 e_x4_34
  refine lv_istore (lv' := [(4, .int x4_34), (3, .int x3_16), (0, .ref a_this), (1, .int x1), (2, .int x2)]) hx hb d_G_find_34 hl (by decide) rfl (fun ls hl => ?_)
  refine lv_iconst (v := 0) hx hb d_G_find_36 (by decide) ?_
  refine lv_istore (lv' := [(5, .int (0 : Int32)), (4, .int x4_34), (3, .int x3_16), (0, .ref a_this), (1, .int x1), (2, .int x2)]) hx hb d_G_find_37 hl (by decide) rfl (fun ls hl => ?_)
  refine lv_ldc (v := 1073741824) hx hb hown (hts _ q_504) d_G_find_39 ?_
  refine lv_istore (lv' := [(6, .int (1073741824 : Int32)), (5, .int (0 : Int32)), (4, .int x4_34), (3, .int x3_16), (0, .ref a_this), (1, .int x1), (2, .int x2)]) hx hb d_G_find_41 hl (by decide) rfl (fun ls hl => ?_)
  refine lv_iconst (v := 0) hx hb d_G_find_43 (by decide) ?_
  refine lv_istore (lv' := [(7, .int (0 : Int32)), (6, .int (1073741824 : Int32)), (5, .int (0 : Int32)), (4, .int x4_34), (3, .int x3_16), (0, .ref a_this), (1, .int x1), (2, .int x2)]) hx hb d_G_find_44 hl (by decide) rfl (fun ls hl => ?_)
  refine lpW_ind (Wp := fun z => ∀ (H : Heap) (locs : List Loc) (ls : Array Slot), va_P (dC, dI) vwCl (cw_G_find cB cI a_this a_outlines a_outlines_begins a_points a_outlines_xs a_outlines_ys a_costs a_restByTwo a_rest a_xs a_ys a_angles a_turns a_outlines_picture a_outlines_layers a_outlines_areas a_outlines_walked n_outlines_begins n_points n_outlines_xs n_outlines_ys n_costs n_restByTwo n_rest n_xs n_ys n_angles n_turns c_count c_cost c_outlines_count c_outlines_traced f_outlines_begins f_points f_outlines_xs f_outlines_ys u21_0 z.2.2.2.1 z.2.2.2.2 f_xs f_ys f_angles f_turns) H → va_D A (cw_G_find cB cI a_this a_outlines a_outlines_begins a_points a_outlines_xs a_outlines_ys a_costs a_restByTwo a_rest a_xs a_ys a_angles a_turns a_outlines_picture a_outlines_layers a_outlines_areas a_outlines_walked n_outlines_begins n_points n_outlines_xs n_outlines_ys n_costs n_restByTwo n_rest n_xs n_ys n_angles n_turns c_count c_cost c_outlines_count c_outlines_traced f_outlines_begins f_points f_outlines_xs f_outlines_ys u21_0 z.2.2.2.1 z.2.2.2.2 f_xs f_ys f_angles f_turns) → va_S A s.heap H locs → lv_has ls 9 [(0, .ref a_this), (1, .int x1), (3, .int x3_16), (4, .int x4_34), (5, .int z.1), (6, .int z.2.1), (7, .int z.2.2.1)] → W p l e (headSpec w_G_find ({ frames := 4, cells := 0, slots := 0, locals := 96 })).room s m ([.ref a_this, .int x1, .int x2] : List Value).toArray below meth c H locs 0 0 Qf (F0 m 46 ls [])) h ?_ _ _ _ hP hD hS (lv_sub hl [5, 6, 4, 3, 2, 1, 0] rfl)
  rintro ⟨x5_l46, x6_l46, x7_l46, f_restByTwo_l46, f_rest_l46⟩ back46 h hb46 H locs ls hP hD hS hl
  have h : wp_G_find_L46 n_outlines_begins n_points n_outlines_xs n_outlines_ys n_costs n_restByTwo n_rest n_xs n_ys n_angles n_turns f_outlines_begins f_outlines_xs f_outlines_ys c_count c_cost f_points u21_0 f_xs f_ys f_angles f_turns x1 x3_16 x4_34 post back46 x5_l46 x6_l46 x7_l46 f_restByTwo_l46 f_rest_l46 := h
  have hP : va_P (dC, dI) vwCl (cw_G_find cB cI a_this a_outlines a_outlines_begins a_points a_outlines_xs a_outlines_ys a_costs a_restByTwo a_rest a_xs a_ys a_angles a_turns a_outlines_picture a_outlines_layers a_outlines_areas a_outlines_walked n_outlines_begins n_points n_outlines_xs n_outlines_ys n_costs n_restByTwo n_rest n_xs n_ys n_angles n_turns c_count c_cost c_outlines_count c_outlines_traced f_outlines_begins f_points f_outlines_xs f_outlines_ys u21_0 f_restByTwo_l46 f_rest_l46 f_xs f_ys f_angles f_turns) H := hP
  have hD : va_D A (cw_G_find cB cI a_this a_outlines a_outlines_begins a_points a_outlines_xs a_outlines_ys a_costs a_restByTwo a_rest a_xs a_ys a_angles a_turns a_outlines_picture a_outlines_layers a_outlines_areas a_outlines_walked n_outlines_begins n_points n_outlines_xs n_outlines_ys n_costs n_restByTwo n_rest n_xs n_ys n_angles n_turns c_count c_cost c_outlines_count c_outlines_traced f_outlines_begins f_points f_outlines_xs f_outlines_ys u21_0 f_restByTwo_l46 f_rest_l46 f_xs f_ys f_angles f_turns) := hD
  have hl : lv_has ls 9 [(0, .ref a_this), (1, .int x1), (3, .int x3_16), (4, .int x4_34), (5, .int x5_l46), (6, .int x6_l46), (7, .int x7_l46)] := hl
  unfold wp_G_find_L46 at h
  have J77 : ∀ (x5_j77 : Int32) (x6_j77 : Int32) (x7_j77 : Int32) (f_restByTwo_j77 : Nat → Int32) (f_rest_j77 : Nat → Int32) (H : Heap) (locs : List Loc) (ls : Array Slot), wp_G_find_J77 n_outlines_begins n_points n_outlines_xs n_outlines_ys n_costs n_restByTwo n_rest n_xs n_ys n_angles n_turns f_outlines_begins f_outlines_xs f_outlines_ys c_count c_cost f_points u21_0 f_restByTwo_j77 f_rest_j77 f_xs f_ys f_angles f_turns x1 x3_16 x4_34 x5_j77 x6_j77 x7_j77 back46 post → va_P (dC, dI) vwCl (cw_G_find cB cI a_this a_outlines a_outlines_begins a_points a_outlines_xs a_outlines_ys a_costs a_restByTwo a_rest a_xs a_ys a_angles a_turns a_outlines_picture a_outlines_layers a_outlines_areas a_outlines_walked n_outlines_begins n_points n_outlines_xs n_outlines_ys n_costs n_restByTwo n_rest n_xs n_ys n_angles n_turns c_count c_cost c_outlines_count c_outlines_traced f_outlines_begins f_points f_outlines_xs f_outlines_ys u21_0 f_restByTwo_j77 f_rest_j77 f_xs f_ys f_angles f_turns) H → va_D A (cw_G_find cB cI a_this a_outlines a_outlines_begins a_points a_outlines_xs a_outlines_ys a_costs a_restByTwo a_rest a_xs a_ys a_angles a_turns a_outlines_picture a_outlines_layers a_outlines_areas a_outlines_walked n_outlines_begins n_points n_outlines_xs n_outlines_ys n_costs n_restByTwo n_rest n_xs n_ys n_angles n_turns c_count c_cost c_outlines_count c_outlines_traced f_outlines_begins f_points f_outlines_xs f_outlines_ys u21_0 f_restByTwo_j77 f_rest_j77 f_xs f_ys f_angles f_turns) → va_S A s.heap H locs → lv_has ls 9 [(0, .ref a_this), (1, .int x1), (3, .int x3_16), (4, .int x4_34), (5, .int x5_j77), (6, .int x6_j77), (7, .int x7_j77)] → W p l e (headSpec w_G_find ({ frames := 4, cells := 0, slots := 0, locals := 96 })).room s m ([.ref a_this, .int x1, .int x2] : List Value).toArray below meth c H locs 0 0 Qf (F0 m 77 ls []) := by
    intro x5_j77 x6_j77 x7_j77 f_restByTwo_j77 f_rest_j77 H locs ls h hP hD hS hl
    unfold wp_G_find_J77 at h
    obtain ⟨x7_77, e_x7_77⟩ : ∃ y : Int32, y = x7_j77 + (1 : Int32) := ⟨_, rfl⟩
    have h := h x7_77 e_x7_77
    refine lv_iinc (v := x7_77) (lv' := [(7, .int x7_77), (0, .ref a_this), (1, .int x1), (3, .int x3_16), (4, .int x4_34), (5, .int x5_j77), (6, .int x6_j77)]) hx hb d_G_find_77 hl (k := 6) rfl (by rw [e_x7_77]; rfl) (by decide) rfl (fun ls hl => ?_)
    refine lv_goto (tgt := 46) hx hb d_G_find_80 (by decide) ?_
    exact hb46 _ h _ _ _ hP hD hS (lv_sub hl [1, 2, 3, 4, 5, 6, 0] rfl)
  refine lv_iload hx hb d_G_find_46 (lv_at hl 6 rfl) ?_
  refine lv_iload hx hb d_G_find_48 (lv_at hl 3 rfl) ?_
  refine lv_icmp_ge (tgt := 83) hx hb d_G_find_50 (by decide) (fun cc_ => ?_) (fun cc_ => ?_)
  · have h := h.1 cc_
    refine lv_aload_n hx hb d_G_find_83 rfl (lv_at hl 0 rfl) ?_
    refine lv_iload hx hb d_G_find_84 (lv_at hl 4 rfl) ?_
    refine lv_iload_n hx hb d_G_find_86 rfl (lv_at hl 2 rfl) ?_
    obtain ⟨Q87, hq87, h⟩ := h
    have hPc := hP.sub (ws' := (cw_G_weighFrom cI a_this a_costs a_restByTwo a_rest a_outlines a_points a_xs a_ys a_angles a_turns n_costs n_restByTwo n_rest c_count c_cost u21_0 f_restByTwo_l46 f_rest_l46)) [0, 6, 7, 8] rfl
    have hDc := hD.sub (ws' := (cw_G_weighFrom cI a_this a_costs a_restByTwo a_rest a_outlines a_points a_xs a_ys a_angles a_turns n_costs n_restByTwo n_rest c_count c_cost u21_0 f_restByTwo_l46 f_rest_l46)) [0, 6, 7, 8] (by decide) rfl
    have hFc := va_free (wc := (cw_G_weighFrom cI a_this a_costs a_restByTwo a_rest a_outlines a_points a_xs a_ys a_angles a_turns n_costs n_restByTwo n_rest c_count c_cost u21_0 f_restByTwo_l46 f_rest_l46)) hD hS hA [0, 6, 7, 8] rfl
    refine va_calli (va_runV (As := [.int x5_l46, .int x3_16]) (rest := []) ⟨hx, hb, hml, hown, hts⟩ (c_G_weighFrom l dC dI cI cB cJ cZ a_this a_costs a_restByTwo a_rest a_outlines a_points a_xs a_ys a_angles a_turns H.size n_costs n_restByTwo n_rest c_count c_cost u21_0 f_restByTwo_l46 f_rest_l46 x5_l46 x3_16 Q87 hq87) (cwV 2 hts (goodV q_505 q_507 q_p13 q_5 q_508) rfl rfl rfl (by decide +kernel) ⟨Nat.le_of_ble_eq_true rfl, Nat.le_of_ble_eq_true rfl⟩) ⟨fun a U g mk q => by obtain ⟨q0, q1, qP, qK, qD⟩ := q; exact ⟨q0, q1, qP, va_K.moved (u := U) (U := U.calling g mk a) (Vm.Alike.refl U.vm) qK, qD⟩, va_recv hK hPc (ci := 3) (q0 := 0) rfl rfl, fun U hU hW => ⟨rfl, by rw [hU], by rw [hU]; exact hPc, va_K.moved hW.alike hK, hDc.weaken (fun _ _ _ _ => trivial)⟩⟩ rfl rfl hl.1 rfl (lv_room (Nat.le_of_ble_eq_true rfl)) d_G_find_87 ⟨Nat.le_of_ble_eq_true rfl, Nat.le_of_ble_eq_true rfl⟩) hS (fun q _ h => hFc q h) hFc (fun r87 u87 t H1 locs ht hvm hw hB hz1 hk1 hS => ?_)
    obtain ⟨u87_0, u87_1⟩ := u87
    obtain ⟨hP1, -, hD1⟩ := hB
    rw [ht] at hP1
    have h := h r87 u87_0 u87_1 hw
    obtain ⟨hP, hD⟩ := va_join (wr := [(a_outlines, .inr (2, [.ref a_outlines_picture, .ref a_outlines_xs, .ref a_outlines_ys, .ref a_outlines_begins, .ref a_outlines_layers, .ref a_outlines_areas, .ref a_outlines_walked, .int c_outlines_count, .int c_outlines_traced])), (a_outlines_begins, .inl (cI, n_outlines_begins, .inl f_outlines_begins)), (a_points, .inl (cI, n_points, .inl f_points)), (a_outlines_xs, .inl (cB, n_outlines_xs, .inl f_outlines_xs)), (a_outlines_ys, .inl (cB, n_outlines_ys, .inl f_outlines_ys)), (a_xs, .inl (cI, n_xs, .inl f_xs)), (a_ys, .inl (cI, n_ys, .inl f_ys)), (a_angles, .inl (cI, n_angles, .inl f_angles)), (a_turns, .inl (cI, n_turns, .inl f_turns))]) (w1 := (cw_G_weighFrom cI a_this a_costs a_restByTwo a_rest a_outlines a_points a_xs a_ys a_angles a_turns n_costs n_restByTwo n_rest c_count c_cost u21_0 u87_0 u87_1)) hP hD [0, 6, 7, 8] [1, 2, 3, 4, 5, 9, 10, 11, 12] rfl rfl (by decide) (by decide) hk1 hFc hP1 hD1
    clear hP1 hD1 hk1 hPc hDc hFc
    generalize H1 = H at hP hS ⊢
    have hP : va_P (dC, dI) vwCl (cw_G_find cB cI a_this a_outlines a_outlines_begins a_points a_outlines_xs a_outlines_ys a_costs a_restByTwo a_rest a_xs a_ys a_angles a_turns a_outlines_picture a_outlines_layers a_outlines_areas a_outlines_walked n_outlines_begins n_points n_outlines_xs n_outlines_ys n_costs n_restByTwo n_rest n_xs n_ys n_angles n_turns c_count c_cost c_outlines_count c_outlines_traced f_outlines_begins f_points f_outlines_xs f_outlines_ys u21_0 u87_0 u87_1 f_xs f_ys f_angles f_turns) H := hP.sub [9, 0, 1, 2, 3, 4, 10, 11, 12, 5, 6, 7, 8] rfl
    have hD : va_D A (cw_G_find cB cI a_this a_outlines a_outlines_begins a_points a_outlines_xs a_outlines_ys a_costs a_restByTwo a_rest a_xs a_ys a_angles a_turns a_outlines_picture a_outlines_layers a_outlines_areas a_outlines_walked n_outlines_begins n_points n_outlines_xs n_outlines_ys n_costs n_restByTwo n_rest n_xs n_ys n_angles n_turns c_count c_cost c_outlines_count c_outlines_traced f_outlines_begins f_points f_outlines_xs f_outlines_ys u21_0 u87_0 u87_1 f_xs f_ys f_angles f_turns) := hD.sub [9, 0, 1, 2, 3, 4, 10, 11, 12, 5, 6, 7, 8] (by decide) rfl
    refine lv_pop hx hb d_G_find_90 rfl ?_
    refine lv_aload_n hx hb d_G_find_91 rfl (lv_at hl 0 rfl) ?_
    refine lv_iload hx hb d_G_find_92 (lv_at hl 4 rfl) ?_
    refine lv_iload_n hx hb d_G_find_94 rfl (lv_at hl 2 rfl) ?_
    refine lv_iload hx hb d_G_find_95 (lv_at hl 5 rfl) ?_
    obtain ⟨Q97, hq97, h⟩ := h
    have hPc := hP.sub (ws' := (cw_G_follow cI a_this a_points a_costs a_restByTwo a_rest a_outlines a_xs a_ys a_angles a_turns n_points n_costs n_restByTwo n_rest c_count c_cost f_points u21_0 u87_0 u87_1)) [0, 3, 6, 7, 8] rfl
    have hDc := hD.sub (ws' := (cw_G_follow cI a_this a_points a_costs a_restByTwo a_rest a_outlines a_xs a_ys a_angles a_turns n_points n_costs n_restByTwo n_rest c_count c_cost f_points u21_0 u87_0 u87_1)) [0, 3, 6, 7, 8] (by decide) rfl
    have hFc := va_free (wc := (cw_G_follow cI a_this a_points a_costs a_restByTwo a_rest a_outlines a_xs a_ys a_angles a_turns n_points n_costs n_restByTwo n_rest c_count c_cost f_points u21_0 u87_0 u87_1)) hD hS hA [0, 3, 6, 7, 8] rfl
    refine va_callv (va_runV (As := [.int x5_l46, .int x3_16, .int x6_l46]) (rest := []) ⟨hx, hb, hml, hown, hts⟩ (c_G_follow l dC dI cI cB cJ cZ a_this a_points a_costs a_restByTwo a_rest a_outlines a_xs a_ys a_angles a_turns H.size n_points n_costs n_restByTwo n_rest c_count c_cost f_points u21_0 u87_0 u87_1 x5_l46 x3_16 x6_l46 Q97 hq97) (cwV 3 hts (goodV q_518 q_520 q_p16 q_5 q_521) rfl rfl rfl (by decide +kernel) ⟨Nat.le_of_ble_eq_true rfl, Nat.le_of_ble_eq_true rfl⟩) ⟨fun a U g mk q => by obtain ⟨q0, q1, qP, qK, qD⟩ := q; exact ⟨q0, q1, qP, va_K.moved (u := U) (U := U.calling g mk a) (Vm.Alike.refl U.vm) qK, qD⟩, va_recv hK hPc (ci := 3) (q0 := 0) rfl rfl, fun U hU hW => ⟨rfl, by rw [hU], by rw [hU]; exact hPc, va_K.moved hW.alike hK, hDc.weaken (fun _ _ _ _ => trivial)⟩⟩ rfl rfl hl.1 rfl (lv_room (Nat.le_of_ble_eq_true rfl)) d_G_find_97 ⟨Nat.le_of_ble_eq_true rfl, Nat.le_of_ble_eq_true rfl⟩) hS (fun q _ h => hFc q h) hFc (fun u97 t H1 locs ht hvm hw hB hz1 hk1 hS => ?_)
    obtain ⟨u97_0, u97_1⟩ := u97
    obtain ⟨hP1, -, hD1⟩ := hB
    rw [ht] at hP1
    have h := h u97_0 u97_1 hw
    obtain ⟨hP, hD⟩ := va_join (wr := [(a_outlines, .inr (2, [.ref a_outlines_picture, .ref a_outlines_xs, .ref a_outlines_ys, .ref a_outlines_begins, .ref a_outlines_layers, .ref a_outlines_areas, .ref a_outlines_walked, .int c_outlines_count, .int c_outlines_traced])), (a_outlines_begins, .inl (cI, n_outlines_begins, .inl f_outlines_begins)), (a_outlines_xs, .inl (cB, n_outlines_xs, .inl f_outlines_xs)), (a_outlines_ys, .inl (cB, n_outlines_ys, .inl f_outlines_ys)), (a_xs, .inl (cI, n_xs, .inl f_xs)), (a_ys, .inl (cI, n_ys, .inl f_ys)), (a_angles, .inl (cI, n_angles, .inl f_angles)), (a_turns, .inl (cI, n_turns, .inl f_turns))]) (w1 := (cw_G_follow cI a_this a_points a_costs a_restByTwo a_rest a_outlines a_xs a_ys a_angles a_turns n_points n_costs n_restByTwo n_rest u97_0 c_cost u97_1 u21_0 u87_0 u87_1)) hP hD [0, 3, 6, 7, 8] [1, 2, 4, 5, 9, 10, 11, 12] rfl rfl (by decide) (by decide) hk1 hFc hP1 hD1
    clear hP1 hD1 hk1 hPc hDc hFc
    generalize H1 = H at hP hS ⊢
    have hP : va_P (dC, dI) vwCl (cw_G_find cB cI a_this a_outlines a_outlines_begins a_points a_outlines_xs a_outlines_ys a_costs a_restByTwo a_rest a_xs a_ys a_angles a_turns a_outlines_picture a_outlines_layers a_outlines_areas a_outlines_walked n_outlines_begins n_points n_outlines_xs n_outlines_ys n_costs n_restByTwo n_rest n_xs n_ys n_angles n_turns u97_0 c_cost c_outlines_count c_outlines_traced f_outlines_begins u97_1 f_outlines_xs f_outlines_ys u21_0 u87_0 u87_1 f_xs f_ys f_angles f_turns) H := hP.sub [8, 0, 1, 9, 2, 3, 10, 11, 12, 4, 5, 6, 7] rfl
    have hD : va_D A (cw_G_find cB cI a_this a_outlines a_outlines_begins a_points a_outlines_xs a_outlines_ys a_costs a_restByTwo a_rest a_xs a_ys a_angles a_turns a_outlines_picture a_outlines_layers a_outlines_areas a_outlines_walked n_outlines_begins n_points n_outlines_xs n_outlines_ys n_costs n_restByTwo n_rest n_xs n_ys n_angles n_turns u97_0 c_cost c_outlines_count c_outlines_traced f_outlines_begins u97_1 f_outlines_xs f_outlines_ys u21_0 u87_0 u87_1 f_xs f_ys f_angles f_turns) := hD.sub [8, 0, 1, 9, 2, 3, 10, 11, 12, 4, 5, 6, 7] (by decide) rfl
    refine lv_aload_n hx hb d_G_find_100 rfl (lv_at hl 0 rfl) ?_
    refine lv_iload_n hx hb d_G_find_101 rfl (lv_at hl 1 rfl) ?_
    obtain ⟨Q102, hq102, h⟩ := h
    have hPc := hP.sub (ws' := (cw_G_measure cB cI a_this a_outlines a_outlines_begins a_xs a_ys a_angles a_turns a_points a_outlines_xs a_outlines_ys a_costs a_rest a_restByTwo a_outlines_picture a_outlines_layers a_outlines_areas a_outlines_walked n_outlines_begins n_xs n_ys n_angles n_turns n_points n_outlines_xs n_outlines_ys u97_0 c_cost c_outlines_count c_outlines_traced f_outlines_begins f_xs f_ys f_angles f_turns u97_1 f_outlines_xs f_outlines_ys)) [0, 1, 2, 9, 10, 11, 12, 3, 4, 5] rfl
    have hDc := hD.sub (ws' := (cw_G_measure cB cI a_this a_outlines a_outlines_begins a_xs a_ys a_angles a_turns a_points a_outlines_xs a_outlines_ys a_costs a_rest a_restByTwo a_outlines_picture a_outlines_layers a_outlines_areas a_outlines_walked n_outlines_begins n_xs n_ys n_angles n_turns n_points n_outlines_xs n_outlines_ys u97_0 c_cost c_outlines_count c_outlines_traced f_outlines_begins f_xs f_ys f_angles f_turns u97_1 f_outlines_xs f_outlines_ys)) [0, 1, 2, 9, 10, 11, 12, 3, 4, 5] (by decide) rfl
    have hFc := va_free (wc := (cw_G_measure cB cI a_this a_outlines a_outlines_begins a_xs a_ys a_angles a_turns a_points a_outlines_xs a_outlines_ys a_costs a_rest a_restByTwo a_outlines_picture a_outlines_layers a_outlines_areas a_outlines_walked n_outlines_begins n_xs n_ys n_angles n_turns n_points n_outlines_xs n_outlines_ys u97_0 c_cost c_outlines_count c_outlines_traced f_outlines_begins f_xs f_ys f_angles f_turns u97_1 f_outlines_xs f_outlines_ys)) hD hS hA [0, 1, 2, 9, 10, 11, 12, 3, 4, 5] rfl
    refine va_callv (va_runV (As := [.int x1]) (rest := []) ⟨hx, hb, hml, hown, hts⟩ (c_G_measure l dC dI cI cB cJ cZ a_this a_outlines a_outlines_begins a_xs a_ys a_angles a_turns a_points a_outlines_xs a_outlines_ys a_costs a_rest a_restByTwo a_outlines_picture a_outlines_layers a_outlines_areas a_outlines_walked H.size n_outlines_begins n_xs n_ys n_angles n_turns n_points n_outlines_xs n_outlines_ys u97_0 c_cost c_outlines_count c_outlines_traced f_outlines_begins f_xs f_ys f_angles f_turns u97_1 f_outlines_xs f_outlines_ys x1 Q102 hq102) (cwV 1 hts (goodV q_526 q_528 q_p18 q_5 q_529) rfl rfl rfl (by decide +kernel) ⟨Nat.le_of_ble_eq_true rfl, Nat.le_of_ble_eq_true rfl⟩) ⟨fun a U g mk q => by obtain ⟨q0, q1, qP, qK, qD⟩ := q; exact ⟨q0, q1, qP, va_K.moved (u := U) (U := U.calling g mk a) (Vm.Alike.refl U.vm) qK, qD⟩, va_recv hK hPc (ci := 3) (q0 := 0) rfl rfl, fun U hU hW => ⟨rfl, by rw [hU], by rw [hU]; exact hPc, va_K.moved hW.alike hK, hDc.weaken (fun _ _ _ _ => trivial)⟩⟩ rfl rfl hl.1 rfl (lv_room (Nat.le_of_ble_eq_true rfl)) d_G_find_102 ⟨Nat.le_of_ble_eq_true rfl, Nat.le_of_ble_eq_true rfl⟩) hS (fun q _ h => hFc q h) hFc (fun u102 t H1 locs ht hvm hw hB hz1 hk1 hS => ?_)
    obtain ⟨u102_0, u102_1, u102_2, u102_3⟩ := u102
    obtain ⟨hP1, -, hD1⟩ := hB
    rw [ht] at hP1
    have h := h u102_0 u102_1 u102_2 u102_3 hw
    obtain ⟨hP, hD⟩ := va_join (wr := [(a_costs, .inl (cI, n_costs, .inl u21_0)), (a_restByTwo, .inl (cI, n_restByTwo, .inl u87_0)), (a_rest, .inl (cI, n_rest, .inl u87_1))]) (w1 := (cw_G_measure cB cI a_this a_outlines a_outlines_begins a_xs a_ys a_angles a_turns a_points a_outlines_xs a_outlines_ys a_costs a_rest a_restByTwo a_outlines_picture a_outlines_layers a_outlines_areas a_outlines_walked n_outlines_begins n_xs n_ys n_angles n_turns n_points n_outlines_xs n_outlines_ys u97_0 c_cost c_outlines_count c_outlines_traced f_outlines_begins u102_0 u102_1 u102_2 u102_3 u97_1 f_outlines_xs f_outlines_ys)) hP hD [0, 1, 2, 9, 10, 11, 12, 3, 4, 5] [6, 7, 8] rfl rfl (by decide) (by decide) hk1 hFc hP1 hD1
    clear hP1 hD1 hk1 hPc hDc hFc
    generalize H1 = H at hP hS ⊢
    have hP : va_P (dC, dI) vwCl (cw_G_find cB cI a_this a_outlines a_outlines_begins a_points a_outlines_xs a_outlines_ys a_costs a_restByTwo a_rest a_xs a_ys a_angles a_turns a_outlines_picture a_outlines_layers a_outlines_areas a_outlines_walked n_outlines_begins n_points n_outlines_xs n_outlines_ys n_costs n_restByTwo n_rest n_xs n_ys n_angles n_turns u97_0 c_cost c_outlines_count c_outlines_traced f_outlines_begins u97_1 f_outlines_xs f_outlines_ys u21_0 u87_0 u87_1 u102_0 u102_1 u102_2 u102_3) H := hP.sub [3, 4, 5, 10, 11, 12, 0, 1, 2, 6, 7, 8, 9] rfl
    have hD : va_D A (cw_G_find cB cI a_this a_outlines a_outlines_begins a_points a_outlines_xs a_outlines_ys a_costs a_restByTwo a_rest a_xs a_ys a_angles a_turns a_outlines_picture a_outlines_layers a_outlines_areas a_outlines_walked n_outlines_begins n_points n_outlines_xs n_outlines_ys n_costs n_restByTwo n_rest n_xs n_ys n_angles n_turns u97_0 c_cost c_outlines_count c_outlines_traced f_outlines_begins u97_1 f_outlines_xs f_outlines_ys u21_0 u87_0 u87_1 u102_0 u102_1 u102_2 u102_3) := hD.sub [3, 4, 5, 10, 11, 12, 0, 1, 2, 6, 7, 8, 9] (by decide) rfl
    refine lv_aload_n hx hb d_G_find_105 rfl (lv_at hl 0 rfl) ?_
    refine lv_iload hx hb d_G_find_106 (lv_at hl 5 rfl) ?_
    refine lv_ldc (v := 262143) hx hb hown (hts _ q_545) d_G_find_108 ?_
    refine lv_iand hx hb d_G_find_110 ?_
    refine lv_topi (fun v111 e_v111 => ?_)
    have h := h v111 e_v111
    refine va_put (D := (dC, dI)) (ci := 3) (v := .int v111) (ty := .int) (C := R_G) (T := F_G) (N := 11) hx hb hts i_G_in t_G t_G_ok n_G_ne hown hK hP hD hS 0 rfl rfl 10 (by decide) (hts _ q_128) (fun _ h9 => h9) rfl (by decide +kernel) (by rfl) (by rfl) (Nat.le_of_ble_eq_true rfl) d_G_find_111 (fun H locs hP hD hS => ?_)
    have hP : va_P (dC, dI) vwCl (cw_G_find cB cI a_this a_outlines a_outlines_begins a_points a_outlines_xs a_outlines_ys a_costs a_restByTwo a_rest a_xs a_ys a_angles a_turns a_outlines_picture a_outlines_layers a_outlines_areas a_outlines_walked n_outlines_begins n_points n_outlines_xs n_outlines_ys n_costs n_restByTwo n_rest n_xs n_ys n_angles n_turns u97_0 v111 c_outlines_count c_outlines_traced f_outlines_begins u97_1 f_outlines_xs f_outlines_ys u21_0 u87_0 u87_1 u102_0 u102_1 u102_2 u102_3) H := hP
    have hD : va_D A (cw_G_find cB cI a_this a_outlines a_outlines_begins a_points a_outlines_xs a_outlines_ys a_costs a_restByTwo a_rest a_xs a_ys a_angles a_turns a_outlines_picture a_outlines_layers a_outlines_areas a_outlines_walked n_outlines_begins n_points n_outlines_xs n_outlines_ys n_costs n_restByTwo n_rest n_xs n_ys n_angles n_turns u97_0 v111 c_outlines_count c_outlines_traced f_outlines_begins u97_1 f_outlines_xs f_outlines_ys u21_0 u87_0 u87_1 u102_0 u102_1 u102_2 u102_3) := hD
    refine lv_aload_n hx hb d_G_find_114 rfl (lv_at hl 0 rfl) ?_
    refine va_get (D := (dC, dI)) (ci := 3) (v := .int u97_0) (C := R_G) (T := F_G) (N := 11) hx hb hts i_G_in hown hK hP 0 rfl rfl 9 (by decide) (hts _ q_125) (fun _ h9 => h9) rfl d_G_find_115 ?_
    subst hQf
    exact W.iret (v := u97_0) hx hb hr (fun t ht hW => ⟨⟨u97_0, (u97_0, v111, u97_1, u21_0, u87_0, u87_1, u102_0, u102_1, u102_2, u102_3), rfl, h, by rw [ht]; exact hP, va_K.moved hW.alike hK, hD⟩, hS.F ht⟩) hS.2.2 d_G_find_118
  · have h := h.2 cc_
    refine lv_aload_n hx hb d_G_find_53 rfl (lv_at hl 0 rfl) ?_
    refine lv_iload hx hb d_G_find_54 (lv_at hl 6 rfl) ?_
    refine lv_iload_n hx hb d_G_find_56 rfl (lv_at hl 2 rfl) ?_
    obtain ⟨Q57, hq57, h⟩ := h
    have hPc := hP.sub (ws' := (cw_G_weighFrom cI a_this a_costs a_restByTwo a_rest a_outlines a_points a_xs a_ys a_angles a_turns n_costs n_restByTwo n_rest c_count c_cost u21_0 f_restByTwo_l46 f_rest_l46)) [0, 6, 7, 8] rfl
    have hDc := hD.sub (ws' := (cw_G_weighFrom cI a_this a_costs a_restByTwo a_rest a_outlines a_points a_xs a_ys a_angles a_turns n_costs n_restByTwo n_rest c_count c_cost u21_0 f_restByTwo_l46 f_rest_l46)) [0, 6, 7, 8] (by decide) rfl
    have hFc := va_free (wc := (cw_G_weighFrom cI a_this a_costs a_restByTwo a_rest a_outlines a_points a_xs a_ys a_angles a_turns n_costs n_restByTwo n_rest c_count c_cost u21_0 f_restByTwo_l46 f_rest_l46)) hD hS hA [0, 6, 7, 8] rfl
    refine va_calli (va_runV (As := [.int x7_l46, .int x3_16]) (rest := []) ⟨hx, hb, hml, hown, hts⟩ (c_G_weighFrom l dC dI cI cB cJ cZ a_this a_costs a_restByTwo a_rest a_outlines a_points a_xs a_ys a_angles a_turns H.size n_costs n_restByTwo n_rest c_count c_cost u21_0 f_restByTwo_l46 f_rest_l46 x7_l46 x3_16 Q57 hq57) (cwV 2 hts (goodV q_505 q_507 q_p13 q_5 q_508) rfl rfl rfl (by decide +kernel) ⟨Nat.le_of_ble_eq_true rfl, Nat.le_of_ble_eq_true rfl⟩) ⟨fun a U g mk q => by obtain ⟨q0, q1, qP, qK, qD⟩ := q; exact ⟨q0, q1, qP, va_K.moved (u := U) (U := U.calling g mk a) (Vm.Alike.refl U.vm) qK, qD⟩, va_recv hK hPc (ci := 3) (q0 := 0) rfl rfl, fun U hU hW => ⟨rfl, by rw [hU], by rw [hU]; exact hPc, va_K.moved hW.alike hK, hDc.weaken (fun _ _ _ _ => trivial)⟩⟩ rfl rfl hl.1 rfl (lv_room (Nat.le_of_ble_eq_true rfl)) d_G_find_57 ⟨Nat.le_of_ble_eq_true rfl, Nat.le_of_ble_eq_true rfl⟩) hS (fun q _ h => hFc q h) hFc (fun r57 u57 t H1 locs ht hvm hw hB hz1 hk1 hS => ?_)
    obtain ⟨u57_0, u57_1⟩ := u57
    obtain ⟨hP1, -, hD1⟩ := hB
    rw [ht] at hP1
    have h := h r57 u57_0 u57_1 hw
    obtain ⟨hP, hD⟩ := va_join (wr := [(a_outlines, .inr (2, [.ref a_outlines_picture, .ref a_outlines_xs, .ref a_outlines_ys, .ref a_outlines_begins, .ref a_outlines_layers, .ref a_outlines_areas, .ref a_outlines_walked, .int c_outlines_count, .int c_outlines_traced])), (a_outlines_begins, .inl (cI, n_outlines_begins, .inl f_outlines_begins)), (a_points, .inl (cI, n_points, .inl f_points)), (a_outlines_xs, .inl (cB, n_outlines_xs, .inl f_outlines_xs)), (a_outlines_ys, .inl (cB, n_outlines_ys, .inl f_outlines_ys)), (a_xs, .inl (cI, n_xs, .inl f_xs)), (a_ys, .inl (cI, n_ys, .inl f_ys)), (a_angles, .inl (cI, n_angles, .inl f_angles)), (a_turns, .inl (cI, n_turns, .inl f_turns))]) (w1 := (cw_G_weighFrom cI a_this a_costs a_restByTwo a_rest a_outlines a_points a_xs a_ys a_angles a_turns n_costs n_restByTwo n_rest c_count c_cost u21_0 u57_0 u57_1)) hP hD [0, 6, 7, 8] [1, 2, 3, 4, 5, 9, 10, 11, 12] rfl rfl (by decide) (by decide) hk1 hFc hP1 hD1
    clear hP1 hD1 hk1 hPc hDc hFc
    generalize H1 = H at hP hS ⊢
    have hP : va_P (dC, dI) vwCl (cw_G_find cB cI a_this a_outlines a_outlines_begins a_points a_outlines_xs a_outlines_ys a_costs a_restByTwo a_rest a_xs a_ys a_angles a_turns a_outlines_picture a_outlines_layers a_outlines_areas a_outlines_walked n_outlines_begins n_points n_outlines_xs n_outlines_ys n_costs n_restByTwo n_rest n_xs n_ys n_angles n_turns c_count c_cost c_outlines_count c_outlines_traced f_outlines_begins f_points f_outlines_xs f_outlines_ys u21_0 u57_0 u57_1 f_xs f_ys f_angles f_turns) H := hP.sub [9, 0, 1, 2, 3, 4, 10, 11, 12, 5, 6, 7, 8] rfl
    have hD : va_D A (cw_G_find cB cI a_this a_outlines a_outlines_begins a_points a_outlines_xs a_outlines_ys a_costs a_restByTwo a_rest a_xs a_ys a_angles a_turns a_outlines_picture a_outlines_layers a_outlines_areas a_outlines_walked n_outlines_begins n_points n_outlines_xs n_outlines_ys n_costs n_restByTwo n_rest n_xs n_ys n_angles n_turns c_count c_cost c_outlines_count c_outlines_traced f_outlines_begins f_points f_outlines_xs f_outlines_ys u21_0 u57_0 u57_1 f_xs f_ys f_angles f_turns) := hD.sub [9, 0, 1, 2, 3, 4, 10, 11, 12, 5, 6, 7, 8] (by decide) rfl
    refine lv_istore (lv' := [(8, .int r57), (0, .ref a_this), (1, .int x1), (3, .int x3_16), (4, .int x4_34), (5, .int x5_l46), (6, .int x6_l46), (7, .int x7_l46)]) hx hb d_G_find_60 hl (by decide) rfl (fun ls hl => ?_)
    refine lv_iload hx hb d_G_find_62 (lv_at hl 0 rfl) ?_
    refine lv_iload hx hb d_G_find_64 (lv_at hl 6 rfl) ?_
    refine lv_icmp_ge (tgt := 77) hx hb d_G_find_66 (by decide) (fun cc_ => ?_) (fun cc_ => ?_)
    · have h := h.1 cc_
      exact J77 x5_l46 x6_l46 x7_l46 u57_0 u57_1 _ _ _ h hP hD hS (lv_sub hl [1, 2, 3, 4, 5, 6, 7] rfl)
    · have h := h.2 cc_
      refine lv_iload hx hb d_G_find_69 (lv_at hl 0 rfl) ?_
      refine lv_istore (lv' := [(6, .int r57), (8, .int r57), (0, .ref a_this), (1, .int x1), (3, .int x3_16), (4, .int x4_34), (5, .int x5_l46), (7, .int x7_l46)]) hx hb d_G_find_71 hl (by decide) rfl (fun ls hl => ?_)
      refine lv_iload hx hb d_G_find_73 (lv_at hl 7 rfl) ?_
      refine lv_istore (lv' := [(5, .int x7_l46), (6, .int r57), (8, .int r57), (0, .ref a_this), (1, .int x1), (3, .int x3_16), (4, .int x4_34), (7, .int x7_l46)]) hx hb d_G_find_75 hl (by decide) rfl (fun ls hl => ?_)
      exact J77 x7_l46 r57 x7_l46 u57_0 u57_1 _ _ _ h hP hD hS (lv_sub hl [3, 4, 5, 6, 0, 1, 7] rfl)
