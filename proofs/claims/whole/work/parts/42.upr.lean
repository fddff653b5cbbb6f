-- outlines as both sides read them
def nn (T : TS) (o : Nat) : Nat := T.2.1 (o + 1) - T.2.1 o
def qX (T : TS) (o i : Nat) : Int := T.2.2.1 (T.2.1 o + i % nn T o)
def qY (T : TS) (o i : Nat) : Int := T.2.2.2.1 (T.2.1 o + i % nn T o)
theorem TB_o {W H : Nat} {T : TS} (h : TB W H 7 T) {o : Nat} (ho : o < T.1) : 4 ≤ nn T o ∧ nn T o ≤ 512 ∧ nn T o ≤ W * (H + 1) + H * (W + 1) ∧ T.2.1 o + nn T o = T.2.1 (o + 1) ∧ T.2.1 (o + 1) ≤ T.2.1 T.1 ∧ T.2.1 T.1 ≤ 3584 ∧ T.2.1 T.1 ≤ 7 * (W * (H + 1) + H * (W + 1)) ∧ 4 * T.1 ≤ T.2.1 T.1 ∧ (1 ≤ T.2.2.2.2.1 o ∧ T.2.2.2.2.1 o ≤ 7) ∧ (-8192 ≤ T.2.2.2.2.2.1 o ∧ T.2.2.2.2.2.1 o ≤ 8192) := by
  obtain ⟨h1, h2, h3⟩ := h
  have h4 := h1.2 o ho
  have h5 := OGs_mono h1 (o := o + 1) (o' := T.1) (by omega) (by omega)
  have h6 := OGs_mono h1 (o := 0) (o' := T.1) (by omega) (by omega)
  have h7 := h4.2.1
  unfold OG at h7
  unfold nn
  refine ⟨h7.1, h7.2.1, h7.2.2.1, by omega, by omega, by omega, h3, by omega, h4.2.2.1, h4.2.2.2⟩
theorem TB_cnt {W H : Nat} {T : TS} (h : TB W H 7 T) : 4 * T.1 ≤ T.2.1 T.1 ∧ T.2.1 T.1 ≤ 3584 ∧ T.2.1 T.1 ≤ 7 * (W * (H + 1) + H * (W + 1)) := by
  have h6 := OGs_mono h.1 (o := 0) (o' := T.1) (by omega) (by omega)
  exact ⟨by omega, by have := h.2.1; omega, h.2.2⟩
theorem TB_q {W H : Nat} {T : TS} (h : TB W H 7 T) {o : Nat} (ho : o < T.1) (i : Nat) : (0 ≤ qX T o i ∧ qX T o i ≤ 16 ∧ 0 ≤ qY T o i ∧ qY T o i ≤ 16) ∧ unitS (qX T o i) (qY T o i) (qX T o (i + 1)) (qY T o (i + 1)) := by
  have h1 := TB_o h ho
  have hm : i % nn T o < nn T o := Nat.mod_lt _ (by omega)
  have h7 := (h.1.2 o ho).2.1.2.2.2 (i % nn T o) hm
  have e : (i % nn T o + 1) % nn T o = (i + 1) % nn T o := by rw [Nat.mod_add_mod]
  have e' : (i % nn T o + 1) % (T.2.1 (o + 1) - T.2.1 o) = (i + 1) % nn T o := e
  rw [e'] at h7
  exact h7
theorem TB_i {W H : Nat} {T : TS} (h : TB W H 7 T) {o : Nat} (ho : o < T.1) (i : Nat) : T.2.1 o + i % nn T o < T.2.1 T.1 := by
  have h1 := TB_o h ho
  have hm : i % nn T o < nn T o := Nat.mod_lt _ (by omega)
  omega
theorem qX_m (T : TS) (o i : Nat) : qX T o (i % nn T o) = qX T o i := by unfold qX; rw [Nat.mod_mod]
theorem qY_m (T : TS) (o i : Nat) : qY T o (i % nn T o) = qY T o i := by unfold qY; rw [Nat.mod_mod]
theorem t_M_xAt {W H : Nat} {T : TS} {c p : Int32} {ff fs fl fa fx fy : Nat → Int32} (hT : TB W H 7 T) (hR : RM T c p ff fs fl fa fx fy) {o i : Nat} (ho : o < T.1) (hi : i < 1000000) {post : Int32 → Unit → Prop} (g : post (iI (qX T o i)) ()) : wp_M_xAt 900 900 3600 ff fs fx (iI o) (iI i) post := by
  have h1 := TB_o hT ho
  obtain ⟨r1, r1', r3, r4⟩ := hR
  have h3 := r3 o ho
  have hk := TB_i hT ho i
  have h4 := (r4 _ hk).1
  have e : ((i : Int).tmod ((nn T o : Nat) : Int)) = ((i % nn T o : Nat) : Int) := by rw [Int.tmod_eq_emod_of_nonneg (by omega)]; push_cast; rfl
  unfold wp_M_xAt
  rw [iI_cl (by omega) (by omega), Int.toNat_natCast, h3.1, h3.2.1]
  rw [show ((T.2.1 (o + 1) - T.2.1 o : Nat)) = nn T o from rfl]
  simp (disch := omega) only [iI_lit, iI_neg, iI_add, iI_sub, iI_mul, iI_nI, iI_ofNat, iI_lt, iI_le, iI_eq, iI_cl, bI_0, bI_1, forall_eq, forall_eq_apply_imp_iff, not_true_eq_false, not_false_eq_true, ne_eq, Classical.not_not, iI_rem, e]
  rw [show ((T.2.1 o : Int) + ((i % nn T o : Nat) : Int)).toNat = T.2.1 o + i % nn T o by omega, h4]
  refine ⟨iI_in (by omega) (by omega) (by omega), iI_in (by omega) (by omega) (by omega), by omega, iI_in (by omega) (by omega) (by omega), g⟩
theorem t_M_yAt {W H : Nat} {T : TS} {c p : Int32} {ff fs fl fa fx fy : Nat → Int32} (hT : TB W H 7 T) (hR : RM T c p ff fs fl fa fx fy) {o i : Nat} (ho : o < T.1) (hi : i < 1000000) {post : Int32 → Unit → Prop} (g : post (iI (qY T o i)) ()) : wp_M_yAt 900 900 3600 ff fs fy (iI o) (iI i) post := by
  have h1 := TB_o hT ho
  obtain ⟨r1, r1', r3, r4⟩ := hR
  have h3 := r3 o ho
  have hk := TB_i hT ho i
  have h4 := (r4 _ hk).2
  have e : ((i : Int).tmod ((nn T o : Nat) : Int)) = ((i % nn T o : Nat) : Int) := by rw [Int.tmod_eq_emod_of_nonneg (by omega)]; push_cast; rfl
  unfold wp_M_yAt
  rw [iI_cl (by omega) (by omega), Int.toNat_natCast, h3.1, h3.2.1]
  rw [show ((T.2.1 (o + 1) - T.2.1 o : Nat)) = nn T o from rfl]
  simp (disch := omega) only [iI_lit, iI_neg, iI_add, iI_sub, iI_mul, iI_nI, iI_ofNat, iI_lt, iI_le, iI_eq, iI_cl, bI_0, bI_1, forall_eq, forall_eq_apply_imp_iff, not_true_eq_false, not_false_eq_true, ne_eq, Classical.not_not, iI_rem, e]
  rw [show ((T.2.1 o : Int) + ((i % nn T o : Nat) : Int)).toNat = T.2.1 o + i % nn T o by omega, h4]
  refine ⟨iI_in (by omega) (by omega) (by omega), iI_in (by omega) (by omega) (by omega), by omega, iI_in (by omega) (by omega) (by omega), g⟩
-- uprights
def upI (T : TS) (o : Nat) (x y : Int) (i : Nat) : Prop := qY T o i ≠ qY T o (i + 1) ∧ min (qY T o i) (qY T o (i + 1)) = y ∧ qX T o i ≤ x
noncomputable def upS (T : TS) (o : Nat) (x y : Int) : Nat → Int := sm (fun i => cI (upI T o x y i) 1 0)
noncomputable def UP (T : TS) (o : Nat) (x y : Int) : Int := upS T o x y (nn T o)
theorem upS_b (T : TS) (o : Nat) (x y : Int) (n : Nat) : 0 ≤ upS T o x y n ∧ upS T o x y n ≤ n := by
  have := sm_b (f := fun i => cI (upI T o x y i) 1 0) (n := n) (lo := 0) (hi := 1) (fun i _ => cI_s (P := fun z => (0:Int) ≤ z ∧ z ≤ 1) (fun _ => by omega) (fun _ => by omega))
  unfold upS; omega
theorem t_M_upright {W H : Nat} {T : TS} {c p : Int32} {ff fs fl fa fx fy : Nat → Int32} (hT : TB W H 7 T) (hR : RM T c p ff fs fl fa fx fy) {o : Nat} (ho : o < T.1) {x y : Int} (hx : -1000 ≤ x ∧ x < 1000) (hy : -1000 ≤ y ∧ y < 1000) {post : Int32 → Unit → Prop} (g : post (iI (UP T o x y)) ()) : wp_M_upright 900 900 3600 3600 fs ff fy fx (iI o) (iI x) (iI y) post := by
  have h1 := TB_o hT ho
  have h3 := hR.2.2.1 o ho
  unfold wp_M_upright
  simp only [iI_lit, iI_neg, iI_add, iI_sub, iI_mul, iI_nI, iI_ofNat, iI_lt, iI_le, iI_eq, iI_cl, bI_0, bI_1, forall_eq, forall_eq_apply_imp_iff, not_true_eq_false, not_false_eq_true, ne_eq, Classical.not_not]
  refine lp_n (fun k z => z.1 = iI (upS T o x y k) ∧ z.2 = iI k) (nn T o) ⟨0, by omega, rfl, rfl⟩ ?_
  rintro k ⟨a, b⟩ back hk ⟨h5, h6⟩ hback
  have h5 : a = _ := h5; have h6 : b = _ := h6; subst h5; subst h6
  have hb := upS_b T o x y k
  have q0 := (TB_q hT ho k).1; have q1 := (TB_q hT ho (k + 1)).1
  have eS : upS T o x y (k + 1) = upS T o x y k + cI (upI T o x y k) 1 0 := rfl
  have fin1 : upI T o x y k → back (iI (upS T o x y k + 1), iI ((k : Int) + 1)) → True := fun _ _ => trivial
  simp (disch := omega) only [wp_M_upright_L6, wp_M_upright_J58, wp_M_upright_J77, wp_M_upright_J78, wp_M_upright_J92, iI_lit, iI_neg, iI_add, iI_sub, iI_mul, iI_nI, iI_ofNat, iI_lt, iI_le, iI_eq, iI_cl, bI_0, bI_1, forall_eq, forall_eq_apply_imp_iff, not_true_eq_false, not_false_eq_true, ne_eq, Classical.not_not]
  rw [Int.toNat_natCast, h3.2.1, show ((T.2.1 (o + 1) - T.2.1 o : Nat)) = nn T o from rfl]
  simp (disch := omega) only [iI_lit, iI_neg, iI_add, iI_sub, iI_mul, iI_nI, iI_ofNat, iI_lt, iI_le, iI_eq, iI_cl, bI_0, bI_1, forall_eq, forall_eq_apply_imp_iff, not_true_eq_false, not_false_eq_true, ne_eq, Classical.not_not]
  refine ⟨iI_in (by omega) (by omega) (by omega), fun q => ?_, fun q => ?_⟩
  · obtain rfl : k = nn T o := by omega
    exact g
  have yes : upI T o x y k → back (iI (upS T o x y k + 1), iI ((k : Int) + 1)) := fun z => hback _ (by omega) ⟨by show iI _ = iI _; rw [eS, cI_t z], by show iI _ = iI _; congr 1⟩
  have no : ¬ upI T o x y k → back (iI (upS T o x y k + 0), iI ((k : Int) + 1)) := fun z => hback _ (by omega) ⟨by show iI _ = iI _; rw [eS, cI_f z], by show iI _ = iI _; congr 1⟩
  refine call_i (fun Q q => t_M_yAt hT hR ho (by omega) q) ?_
  rw [show (k : Int) + 1 = ((k + 1 : Nat) : Int) by omega] at *
  refine call_i (fun Q q => t_M_yAt hT hR ho (by omega) q) ?_
  unfold upI at yes no
  simp (disch := omega) only [iI_lit, iI_neg, iI_add, iI_sub, iI_mul, iI_nI, iI_ofNat, iI_lt, iI_le, iI_eq, iI_cl, bI_0, bI_1, forall_eq, forall_eq_apply_imp_iff, not_true_eq_false, not_false_eq_true, ne_eq, Classical.not_not, true_imp_iff, false_imp_iff, and_true, true_and, Int.reduceEq, Int.reduceLT, Int.reduceLE, Int.reduceNeg, implies_true]
  refine ⟨fun z => no (by omega), fun z => ⟨fun z2 => ⟨fun z3 => no (by omega), fun z3 => ?_⟩, fun z2 => ⟨fun z3 => no (by omega), fun z3 => ?_⟩⟩⟩
  · refine call_i (fun Q q => t_M_xAt hT hR ho (by omega) q) ?_
    simp (disch := omega) only [iI_lit, iI_neg, iI_add, iI_sub, iI_mul, iI_nI, iI_ofNat, iI_lt, iI_le, iI_eq, iI_cl, bI_0, bI_1, forall_eq, forall_eq_apply_imp_iff, not_true_eq_false, not_false_eq_true, ne_eq, Classical.not_not, true_imp_iff, false_imp_iff, and_true, true_and, Int.reduceEq, Int.reduceLT, Int.reduceLE, Int.reduceNeg, implies_true]
    exact ⟨fun z4 => no (by omega), fun z4 => yes (by omega)⟩
  · refine call_i (fun Q q => t_M_xAt hT hR ho (by omega) q) ?_
    simp (disch := omega) only [iI_lit, iI_neg, iI_add, iI_sub, iI_mul, iI_nI, iI_ofNat, iI_lt, iI_le, iI_eq, iI_cl, bI_0, bI_1, forall_eq, forall_eq_apply_imp_iff, not_true_eq_false, not_false_eq_true, ne_eq, Classical.not_not, true_imp_iff, false_imp_iff, and_true, true_and, Int.reduceEq, Int.reduceLT, Int.reduceLE, Int.reduceNeg, implies_true]
    exact ⟨fun z4 => no (by omega), fun z4 => yes (by omega)⟩
-- the class's room for outlines
def KU (W H nb nl na nX nY : Nat) : Prop := nl = 7 * (W * (H + 1) + H * (W + 1)) / 4 ∧ na = nl ∧ nb = nl + 1 ∧ nX = 7 * (W * (H + 1) + H * (W + 1)) ∧ nY = nX ∧ nX < 4000
theorem t_U_uprights {W H nb nl na nX nY : Nat} {T : TS} {c : Int32} {fl fb fa fx fy : Nat → Int32} (hK : KU W H nb nl na nX nY) (hT : TB W H 7 T) (hR : RC T c fl fb fa fx fy) {o : Nat} (ho : o < T.1) {x y : Int} (hx : -1000 ≤ x ∧ x < 1000) (hy : -1000 ≤ y ∧ y < 1000) {post : Int32 → Unit → Prop} (g : post (iI (UP T o x y)) ()) : wp_U_uprightsLeftOf nb nX nY fb fx fy (iI o) (iI x) (iI y) post := by
  have h1 := TB_o hT ho
  obtain ⟨r1, r2, r3, r4⟩ := hR
  obtain ⟨k1, k2, k3, k4, k5, k6⟩ := hK
  have hb1 := r2 o (by omega); have hb2 := r2 (o + 1) (by omega)
  generalize hS : W * (H + 1) + H * (W + 1) = S at *
  -- the class goes by the point before
  have hpr : ∀ k, k < nn T o → (k + (nn T o - 1)) % nn T o + 1 = k + (if k = 0 then nn T o else 0) := by
    intro k hk
    by_cases e : k = 0
    · subst e; rw [if_pos rfl, Nat.zero_add, Nat.mod_eq_of_lt (by omega)]; omega
    · rw [if_neg e, show k + (nn T o - 1) = (k - 1) + nn T o by omega, Nat.add_mod_right, Nat.mod_eq_of_lt (by omega)]; omega
  have eU : UP T o x y = sm (fun k => cI (upI T o x y ((k + (nn T o - 1)) % nn T o)) 1 0) (nn T o) := by
    unfold UP upS
    obtain ⟨m, hm⟩ : ∃ m, nn T o = m + 1 := ⟨nn T o - 1, by omega⟩
    rw [hm, sm_succ' (fun k => cI (upI T o x y ((k + (m + 1 - 1)) % (m + 1))) (1:Int) 0) m]
    have e0 : (0 + (m + 1 - 1)) % (m + 1) = m := by rw [Nat.zero_add, Nat.mod_eq_of_lt (by omega)]; omega
    rw [e0]
    have e1 : sm (fun k => cI (upI T o x y ((k + 1 + (m + 1 - 1)) % (m + 1))) (1:Int) 0) m = sm (fun k => cI (upI T o x y k) 1 0) m := sm_c (fun k hk => by
      rw [show k + 1 + (m + 1 - 1) = k + (m + 1) by omega, Nat.add_mod_right, Nat.mod_eq_of_lt (by omega)])
    rw [e1]
    simp only [sm]; omega
  unfold wp_U_uprightsLeftOf
  simp (disch := omega) only [iI_lit, iI_neg, iI_add, iI_sub, iI_mul, iI_nI, iI_ofNat, iI_lt, iI_le, iI_eq, iI_cl, bI_0, bI_1, forall_eq, forall_eq_apply_imp_iff, not_true_eq_false, not_false_eq_true, ne_eq, Classical.not_not]
  rw [show ((o : Int) + 1).toNat = o + 1 by omega, Int.toNat_natCast, hb1, hb2, ← h1.2.2.2.1]
  simp only [iI_lit, iI_neg, iI_add, iI_sub, iI_mul, iI_nI, iI_ofNat, iI_lt, iI_le, iI_eq, iI_cl, bI_0, bI_1, forall_eq, forall_eq_apply_imp_iff, not_true_eq_false, not_false_eq_true, ne_eq, Classical.not_not]
  refine ⟨iI_in (by omega) (by omega) (by omega), iI_in (by omega) (by omega) (by omega), ?_⟩
  refine lp_n (fun k z => (k < nn T o → z.1 = iI ((T.2.1 o + (k + (nn T o - 1)) % nn T o : Nat))) ∧ z.2.1 = iI (sm (fun k => cI (upI T o x y ((k + (nn T o - 1)) % nn T o)) 1 0) k) ∧ z.2.2 = iI ((T.2.1 o + k : Nat))) (nn T o) ⟨0, by omega, ?_, rfl, rfl⟩ ?_
  · intro _; show iI _ = iI _; congr 1
    have := hpr 0 (by omega); simp at this ⊢; omega
  rintro k ⟨a, b, c⟩ back hk ⟨h5, h6, h7⟩ hback
  have h6 : b = _ := h6; have h7 : c = _ := h7; subst h6; subst h7
  have h5 : k < nn T o → a = _ := h5
  simp (disch := omega) only [wp_U_uprightsLeftOf_L27, wp_U_uprightsLeftOf_J86, iI_lit, iI_neg, iI_add, iI_sub, iI_mul, iI_nI, iI_ofNat, iI_lt, iI_le, iI_eq, iI_cl, bI_0, bI_1, forall_eq, forall_eq_apply_imp_iff, not_true_eq_false, not_false_eq_true, ne_eq, Classical.not_not]
  refine ⟨fun q => ?_, fun q => ?_⟩
  · obtain rfl : k = nn T o := by omega
    rwa [← eU]
  have hkn : k < nn T o := by omega
  have h5 := h5 hkn; subst h5
  have hp := hpr k hkn
  generalize hj : (k + (nn T o - 1)) % nn T o = j at *
  have hjn : j < nn T o := by rw [← hj]; exact Nat.mod_lt _ (by omega)
  have ekj : (j + 1) % nn T o = k := by
    by_cases e : k = 0
    · rw [if_pos e] at hp; rw [hp, e, Nat.zero_add, Nat.mod_self]
    · rw [if_neg e] at hp; rw [hp, Nat.add_zero, Nat.mod_eq_of_lt hkn]
  have fx1 := r4 (T.2.1 o + k) (by omega); have fx2 := r4 (T.2.1 o + j) (by omega)
  have eX1 : T.2.2.1 (T.2.1 o + k) = qX T o (j + 1) := by unfold qX; rw [ekj]
  have eY1 : T.2.2.2.1 (T.2.1 o + k) = qY T o (j + 1) := by unfold qY; rw [ekj]
  have eX0 : T.2.2.1 (T.2.1 o + j) = qX T o j := by unfold qX; rw [Nat.mod_eq_of_lt hjn]
  have eY0 : T.2.2.2.1 (T.2.1 o + j) = qY T o j := by unfold qY; rw [Nat.mod_eq_of_lt hjn]
  have qq := TB_q hT ho j; have q1 := (TB_q hT ho (j + 1)).1
  have hu := qq.2; have q0 := qq.1
  unfold unitS at hu
  have fin : ∀ v : Int, v = cI (upI T o x y j) 1 0 → back (iI ((T.2.1 o + k : Nat)), iI (sm (fun k => cI (upI T o x y ((k + (nn T o - 1)) % nn T o)) 1 0) k + v), iI (((T.2.1 o + k : Nat) : Int) + 1)) := by
    intro v hv
    refine hback _ (by omega) ⟨fun hk1 => ?_, ?_, ?_⟩
    · show iI _ = iI _
      congr 2
      rw [show k + 1 + (nn T o - 1) = k + nn T o by omega, Nat.add_mod_right, Nat.mod_eq_of_lt (by omega)]
    · show iI _ = iI (sm _ k + cI (upI T o x y ((k + (nn T o - 1)) % nn T o)) 1 0); rw [hj, hv]
    · show iI _ = iI _; congr 1
  have no : ¬ upI T o x y j → back (iI ((T.2.1 o + k : Nat)), iI (sm (fun k => cI (upI T o x y ((k + (nn T o - 1)) % nn T o)) 1 0) k), iI (((T.2.1 o + k : Nat) : Int) + 1)) := fun z => by
    have := fin 0 (cI_f z).symm
    rwa [Int.add_zero] at this
  have yes : upI T o x y j → back (iI ((T.2.1 o + k : Nat)), iI (sm (fun k => cI (upI T o x y ((k + (nn T o - 1)) % nn T o)) 1 0) k + 1), iI (((T.2.1 o + k : Nat) : Int) + 1)) := fun z => fin 1 (cI_t z).symm
  unfold upI at yes no
  rw [iI_cl (by omega) (by omega), Int.toNat_natCast, Int.toNat_natCast, fx1.1, fx1.2, fx2.1, fx2.2, eX1, eY1, eX0, eY0]
  simp (disch := omega) only [iI_lit, iI_neg, iI_add, iI_sub, iI_mul, iI_nI, iI_ofNat, iI_lt, iI_le, iI_eq, iI_cl, bI_0, bI_1, forall_eq, forall_eq_apply_imp_iff, not_true_eq_false, not_false_eq_true, ne_eq, Classical.not_not, jmin_i]
  have i1 : vp_in (iI ((T.2.1 o + k : Nat) : Int)) nX := iI_in (by omega) (by omega) (by omega)
  have i2 : vp_in (iI ((T.2.1 o + j : Nat) : Int)) nX := iI_in (by omega) (by omega) (by omega)
  rw [k5]
  refine ⟨i1, fun z => no (by omega), fun z => ⟨i1, i2, fun z2 => no (by omega), fun z2 => ⟨i1, i2, fun z3 => no (by omega), fun z3 => yes (by omega)⟩⟩⟩
