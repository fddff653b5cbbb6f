abbrev b_L_cell : ByteArray := method_2_code
abbrev y_L_cell : MethodName := ⟨"OutlineCurvesLaw", "cell", "([II)I"⟩
abbrev w_L_cell : List Cond := .code y_L_cell b_L_cell 2 (some .int) :: allW
theorem q_8 : (Jvm.Cond.initialized "java/lang/Throwable") ∈ allW := inT 8 (by decide +kernel) (by decide +kernel)
theorem q_16 : (Jvm.Cond.classLink "OutlineCurvesLaw" (8 : Nat) "OutlineCurves") ∈ allW := inT 16 (by decide +kernel) (by decide +kernel)
theorem q_17 : (Jvm.Cond.instantiable "OutlineCurves" (4 : Nat)) ∈ allW := inT 17 (by decide +kernel) (by decide +kernel)
theorem q_18 : (Jvm.Cond.methodLink "OutlineCurvesLaw" (61 : Nat) ({ cls := "OutlineCurves", name := "<init>", desc := "(II)V" } : Jvm.MethodName)) ∈ allW := inT 18 (by decide +kernel) (by decide +kernel)
theorem q_19 : (Jvm.Cond.instanceMethod ({ cls := "OutlineCurves", name := "<init>", desc := "(II)V" } : Jvm.MethodName)) ∈ allW := inT 19 (by decide +kernel) (by decide +kernel)
theorem q_20 : (Jvm.Cond.code ({ cls := "OutlineCurves", name := "<init>", desc := "(II)V" } : Jvm.MethodName) prog_1_method_1_code (3 : Nat) (Option.none : Option Jvm.ClassFile.FieldType)) ∈ allW := inT 20 (by decide +kernel) (by decide +kernel)
theorem q_242 : (Jvm.Cond.methodLink "OutlineCurvesLaw" (55 : Nat) ({ cls := "OutlineCurvesLaw", name := "cell", desc := "([II)I" } : Jvm.MethodName)) ∈ allW := inT 242 (by decide +kernel) (by decide +kernel)
theorem q_243 : (Jvm.Cond.static ({ cls := "OutlineCurvesLaw", name := "cell", desc := "([II)I" } : Jvm.MethodName)) ∈ allW := inT 243 (by decide +kernel) (by decide +kernel)
theorem q_244 : (Jvm.Cond.code ({ cls := "OutlineCurvesLaw", name := "cell", desc := "([II)I" } : Jvm.MethodName) method_2_code (2 : Nat) (Option.some Jvm.ClassFile.FieldType.int)) ∈ allW := inT 244 (by decide +kernel) (by decide +kernel)
theorem q_655 : (Jvm.Cond.classLink "OutlineCurvesLaw" (64 : Nat) "OutlineCurvesModel") ∈ allW := inT 655 (by decide +kernel) (by decide +kernel)
theorem q_656 : (Jvm.Cond.instantiable "OutlineCurvesModel" (32 : Nat)) ∈ allW := inT 656 (by decide +kernel) (by decide +kernel)
theorem q_657 : (Jvm.Cond.methodLink "OutlineCurvesLaw" (66 : Nat) ({ cls := "OutlineCurvesModel", name := "<init>", desc := "(II)V" } : Jvm.MethodName)) ∈ allW := inT 657 (by decide +kernel) (by decide +kernel)
theorem q_658 : (Jvm.Cond.instanceMethod ({ cls := "OutlineCurvesModel", name := "<init>", desc := "(II)V" } : Jvm.MethodName)) ∈ allW := inT 658 (by decide +kernel) (by decide +kernel)
theorem q_659 : (Jvm.Cond.code ({ cls := "OutlineCurvesModel", name := "<init>", desc := "(II)V" } : Jvm.MethodName) prog_7_method_1_code (3 : Nat) (Option.none : Option Jvm.ClassFile.FieldType)) ∈ allW := inT 659 (by decide +kernel) (by decide +kernel)
theorem q_951 : (Jvm.Cond.arrayClass Jvm.ClassFile.FieldType.long) ∈ allW := inT 951 (by decide +kernel) (by decide +kernel)
theorem d_L_cell_0 : decode b_L_cell 0 = .ok (.iload_n 1, 1) := by decide +kernel
theorem d_L_cell_1 : decode b_L_cell 1 = .ok (.aload_n 0, 1) := by decide +kernel
theorem d_L_cell_2 : decode b_L_cell 2 = .ok (.arraylength, 1) := by decide +kernel
theorem d_L_cell_3 : decode b_L_cell 3 = .ok (.if_icmp .ge 9, 3) := by decide +kernel
theorem d_L_cell_6 : decode b_L_cell 6 = .ok (.aload_n 0, 1) := by decide +kernel
theorem d_L_cell_7 : decode b_L_cell 7 = .ok (.iload_n 1, 1) := by decide +kernel
theorem d_L_cell_8 : decode b_L_cell 8 = .ok (.iaload, 1) := by decide +kernel
theorem d_L_cell_9 : decode b_L_cell 9 = .ok (.goto 4, 3) := by decide +kernel
theorem d_L_cell_12 : decode b_L_cell 12 = .ok (.iconst 0, 1) := by decide +kernel
theorem d_L_cell_13 : decode b_L_cell 13 = .ok (.ireturn, 1) := by decide +kernel
def cvl (L : Nat) (xs : Nat → Int32) (i : Int32) : Int32 := if Int32.ofNat L ≤ i then 0 else xs i.toNatClampNeg
set_option maxHeartbeats 4000000 in
set_option maxRecDepth 100000 in
theorem s_L_cell (l : Launch) (b L : Nat) (xs : Nat → Int32) (x1 : Int32) (post : Int32 → Unit → Prop) (hin : ¬ Int32.ofNat L ≤ x1 → vp_in x1 L) (h : post (cvl L xs x1) ()) : Met l y_L_cell w_L_cell ({ frames := 0, cells := 0, slots := 0, locals := 0 }) (va_Pc [.ref b, .int x1] (fun U => va_X b L xs U U.heap)) (roQ post) 0 0 (fun _ => False) := by
  refine Met.ofW (cc := b_L_cell) (maxL := 2) (ret := (some .int)) (by decide +kernel) rfl ?_
  intro p e s m args below meth c s₁ B hml hv
  obtain ⟨rfl, hX⟩ := hv
  have hx := B.exec
  have hb := B.bytes
  have hr := B.returns
  have hbl : b < s.heap.size := by
    obtain ⟨scr, h1, -⟩ := hX
    exact (Array.getElem?_eq_some_iff.mp h1).1
  have hbA : ¬ (fun _ : Nat => False) b := fun h => h
  have hS : va_S (fun _ : Nat => False) s.heap s.heap [] := va_S.rf
  generalize hQf : MQ below (roQ post) ([.ref b, .int x1] : List Value).toArray s 0 0 (fun _ => False) = Qf
  have hl := lv_entry ([.ref b, .int x1]) (n := 2) (Nat.le_of_ble_eq_true rfl)
  rw [lg_entry_eq]
  generalize (lg_sl ([.ref b, .int x1]) ++ List.replicate (2 - (lg_sl ([.ref b, .int x1])).length) Slot.unset).toArray = ls at hl ⊢
  have hl : lv_has ls 2 [(0, .ref b), (1, .int x1)] := hl
  refine lv_iload_n hx hb d_L_cell_0 rfl (lv_at hl 1 rfl) ?_
  refine lv_aload_n hx hb d_L_cell_1 rfl (lv_at hl 0 rfl) ?_
  refine va_slen hx hb hX hbl hbA hS d_L_cell_2 ?_
  refine lv_icmp_ge (tgt := 12) hx hb d_L_cell_3 (by decide) (fun cc_ => ?_) (fun cc_ => ?_)
  · refine lv_iconst (v := 0) hx hb d_L_cell_12 (by decide) ?_
    subst hQf
    have h : post 0 () := by unfold cvl at h; rwa [if_pos cc_] at h
    exact W.iret (v := (0 : Int32)) hx hb hr (fun t ht hW => ⟨(0 : Int32), rfl, h, ht⟩) (fun q hq => by cases hq) d_L_cell_13
  · refine lv_aload_n hx hb d_L_cell_6 rfl (lv_at hl 0 rfl) ?_
    refine lv_iload_n hx hb d_L_cell_7 rfl (lv_at hl 1 rfl) ?_
    refine va_sld hx hb hX hbl hbA hS (hin cc_) d_L_cell_8 ?_
    refine lv_goto (tgt := 13) hx hb d_L_cell_9 (by decide) ?_
    subst hQf
    have h : post (xs x1.toNatClampNeg) () := by unfold cvl at h; rwa [if_neg cc_] at h
    exact W.iret (v := xs x1.toNatClampNeg) hx hb hr (fun t ht hW => ⟨xs x1.toNatClampNeg, rfl, h, ht⟩) (fun q hq => by cases hq) d_L_cell_13
theorem st_arr {s : State} {args : Array Value} {ty : FieldType} (h : (Cond.arrayClass ty).before args s = true) : ∃ cA : ClassId, s.vm.findClass ("[" ++ ty.toString) = some cA ∧ ArrOfT s cA ty := by
  obtain ⟨cA, kA, comp, h1, h2, h3⟩ := Cond.arrayClass_spec h
  exact ⟨cA, h1, fun n z => ⟨fun k h => (by cases h), kA, h2, comp, h3⟩⟩
theorem st_tab {s : State} {args : Array Value} {C n : String} {A : Nat → Prop} {f : Nat → Int32} (hl : (Cond.laysStatic C n "[I").before args s = true) (hini : (Cond.initialized C).before args s = true) (harr : (Cond.arrayOf (.static C n "[I") .int).before args s = true) (hlen : (Cond.eq (.length (.static C n "[I")) (.int 4)).before args s = true)
    (h0 : (Cond.eq (.elem (.static C n "[I") (.int 0)) (.int (f 0))).before args s = true) (h1 : (Cond.eq (.elem (.static C n "[I") (.int 1)) (.int (f 1))).before args s = true) (h2 : (Cond.eq (.elem (.static C n "[I") (.int 2)) (.int (f 2))).before args s = true) (h3 : (Cond.eq (.elem (.static C n "[I") (.int 3)) (.int (f 3))).before args s = true)
    (hA : ∀ a : Nat, a < s.heap.size → ¬ A a) : ∃ t : Nat, va_Z C n "[I" (.ref t) A s s.heap ∧ va_T .int t 4 (fun j => .int (f j)) A s s.heap := by
  have hel : ∀ j : Nat, j < 4 → (Term.elem (.static C n "[I") (.int (Int32.ofNat j))).eval args s none [] s = some (.int (f j)) := by
    intro j hj
    rcases (show j = 0 ∨ j = 1 ∨ j = 2 ∨ j = 3 by omega) with rfl | rfl | rfl | rfl
    · exact va_eqt h0
    · exact va_eqt h1
    · exact va_eqt h2
    · exact va_eqt h3
  obtain ⟨t, ht, hT⟩ := va_Tof (f := fun j => .int (f j)) (A := A) (N := 4) (by decide) harr (va_eqt hlen) hel hA
  exact ⟨t, va_Zref hl hini ht hA, hT⟩
theorem st_not {s : State} {args : Array Value} {E F : String} (hE : (Cond.castable E E).before args s = true) (hF : (Cond.castable F F).before args s = true) (h : (Cond.not (.castable E F)).before args s = true) : ∃ c t, s.vm.findClass E = some c ∧ s.vm.findClass F = some t ∧ s.vm.assignable c t = false := by
  obtain ⟨c, -, h1, -, -⟩ := Cond.castable_spec (show (Cond.castable E E).holds args s none s [] = true from hE)
  obtain ⟨t, -, h2, -, -⟩ := Cond.castable_spec (show (Cond.castable F F).holds args s none s [] = true from hF)
  refine ⟨c, t, h1, h2, ?_⟩
  simpa [Cond.before, Cond.holds, Cond.value, h1, h2] using h
