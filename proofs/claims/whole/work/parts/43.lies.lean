-- what an outline lies in; what covers a sample
def lok (T : TS) (o : Nat) (x y : Int) (k : Nat) : Prop := T.2.2.2.2.1 k = T.2.2.2.2.1 o ∧ ¬ (T.2.2.2.2.2.1 k < 0 ↔ T.2.2.2.2.2.1 o < 0) ∧ UP T k x y % 2 = 1
noncomputable def lf (T : TS) (o : Nat) (x y : Int) : Nat → Int
  | 0 => -1
  | k + 1 => cI (lok T o x y k ∧ (lf T o x y k = -1 ∨ (T.2.2.2.2.2.1 k).natAbs < (T.2.2.2.2.2.1 (lf T o x y k).toNat).natAbs)) (k : Int) (lf T o x y k)
noncomputable def lY (T : TS) (o : Nat) : Int := cI (T.2.2.2.2.2.1 o < 0) (qY T o 0) (qY T o 0 - 1)
noncomputable def LI (T : TS) (o : Nat) : Int := lf T o (qX T o 0) (lY T o) T.1
theorem lf_b (T : TS) (o : Nat) (x y : Int) (k : Nat) : -1 ≤ lf T o x y k ∧ lf T o x y k < k := by
  induction k with
  | zero => exact ⟨Int.le_refl _, by show (-1 : Int) < 0; omega⟩
  | succ k ih => exact cI_s (P := fun z => -1 ≤ z ∧ z < ((k + 1 : Nat) : Int)) (fun _ => by omega) (fun _ => by omega)
theorem UP_b (T : TS) (o : Nat) (x y : Int) : 0 ≤ UP T o x y ∧ UP T o x y ≤ nn T o := upS_b T o x y _
theorem t_M_size {a : Int} {post : Int32 → Unit → Prop} (h : -100000 ≤ a ∧ a < 100000) (g : post (iI (a.natAbs : Int)) ()) : wp_M_size (iI a) post := by
  unfold wp_M_size
  simp (disch := omega) only [iI_lit, iI_neg, iI_add, iI_sub, iI_mul, iI_nI, iI_ofNat, iI_lt, iI_le, iI_eq, iI_cl, bI_0, bI_1, forall_eq, forall_eq_apply_imp_iff, not_true_eq_false, not_false_eq_true, ne_eq, Classical.not_not, true_imp_iff, false_imp_iff, and_true, true_and, Int.reduceEq, Int.reduceLT, Int.reduceLE, Int.reduceNeg, implies_true]
  refine ⟨fun q => ?_, fun q => ?_⟩
  · rwa [show ((a.natAbs : Int)) = a by omega] at g
  · rwa [show ((a.natAbs : Int)) = -a by omega] at g
theorem t_M_liesIn {W H : Nat} {T : TS} {p : Int32} {ff fs fl fa fx fy : Nat → Int32} (hT : TB W H 7 T) (hR : RM T (iI T.1) p ff fs fl fa fx fy) {o : Nat} (ho : o < T.1) {post : Int32 → Unit → Prop} (g : post (iI (LI T o)) ()) : wp_M_liesIn 900 900 900 3600 3600 900 (iI T.1) fa ff fs fx fy fl (iI o) post := by
  have h1 := TB_o hT ho
  have hq := (TB_q hT ho 0).1
  obtain ⟨r1, r1', r3, r4⟩ := id hR
  have h3 := r3 o ho
  have loop : ∀ (hh : Int), hh = cI (T.2.2.2.2.2.1 o < 0) 1 0 → wp_M_liesIn_J43 900 900 900 3600 3600 900 (iI T.1) fa ff fs fx fy fl (iI o) (iI hh) (iI (qX T o 0)) (iI (lY T o)) post := by
    intro hh ehh
    have hyb : -1 ≤ lY T o ∧ lY T o ≤ 16 := cI_s (P := fun z => -1 ≤ z ∧ z ≤ 16) (fun _ => by omega) (fun _ => by omega)
    unfold wp_M_liesIn_J43
    simp only [iI_lit, iI_neg, iI_add, iI_sub, iI_mul, iI_nI, iI_ofNat, iI_lt, iI_le, iI_eq, iI_cl, bI_0, bI_1, forall_eq, forall_eq_apply_imp_iff, not_true_eq_false, not_false_eq_true, ne_eq, Classical.not_not, true_imp_iff, false_imp_iff, and_true, true_and, Int.reduceEq, Int.reduceLT, Int.reduceLE, Int.reduceNeg, implies_true]
    refine lp_n (fun k z => z.1 = iI (lf T o (qX T o 0) (lY T o) k) ∧ z.2 = iI k) T.1 ⟨0, by omega, rfl, rfl⟩ ?_
    rintro k ⟨a, b⟩ back hk ⟨h5, h6⟩ hback
    have h5 : a = _ := h5; have h6 : b = _ := h6; subst h5; subst h6
    have hb := lf_b T o (qX T o 0) (lY T o) k
    have eS : lf T o (qX T o 0) (lY T o) (k + 1) = cI (lok T o (qX T o 0) (lY T o) k ∧ (lf T o (qX T o 0) (lY T o) k = -1 ∨ (T.2.2.2.2.2.1 k).natAbs < (T.2.2.2.2.2.1 (lf T o (qX T o 0) (lY T o) k).toNat).natAbs)) (k : Int) (lf T o (qX T o 0) (lY T o) k) := rfl
    simp (disch := omega) only [wp_M_liesIn_L51, wp_M_liesIn_J97, wp_M_liesIn_J105, wp_M_liesIn_J106, wp_M_liesIn_J157, wp_M_liesIn_J161, iI_lit, iI_neg, iI_add, iI_sub, iI_mul, iI_nI, iI_ofNat, iI_lt, iI_le, iI_eq, iI_cl, bI_0, bI_1, forall_eq, forall_eq_apply_imp_iff, not_true_eq_false, not_false_eq_true, ne_eq, Classical.not_not, true_imp_iff, false_imp_iff, and_true, true_and, Int.reduceEq, Int.reduceLT, Int.reduceLE, Int.reduceNeg, implies_true, Int.toNat_natCast]
    refine ⟨fun q => ?_, fun q => ?_⟩
    · obtain rfl : k = T.1 := by omega
      exact g
    have hkn : k < T.1 := by omega
    have k3 := r3 k hkn; have k1 := TB_o hT hkn
    generalize hF : lf T o (qX T o 0) (lY T o) k = F at *
    have no : ¬ (lok T o (qX T o 0) (lY T o) k ∧ (F = -1 ∨ (T.2.2.2.2.2.1 k).natAbs < (T.2.2.2.2.2.1 F.toNat).natAbs)) → back (iI F, iI ((k : Int) + 1)) := fun z => hback _ (by omega) ⟨by show iI _ = iI _; rw [eS, cI_f z], by show iI _ = iI _; congr 1⟩
    have yes : (lok T o (qX T o 0) (lY T o) k ∧ (F = -1 ∨ (T.2.2.2.2.2.1 k).natAbs < (T.2.2.2.2.2.1 F.toNat).natAbs)) → back (iI k, iI ((k : Int) + 1)) := fun z => hback _ (by omega) ⟨by show iI _ = iI _; rw [eS, cI_t z], by show iI _ = iI _; congr 1⟩
    unfold lok at no yes
    refine ⟨fun z => no (fun w => w.1.2.1 (by rw [show k = o by omega])), fun z => ⟨iI_in (by omega) (by omega) (by omega), iI_in (by omega) (by omega) (by omega), ?_⟩⟩
    rw [k3.2.2.1, h3.2.2.1, k3.2.2.2]
    have ub := UP_b T k (qX T o 0) (lY T o)
    have et : (UP T k (qX T o 0) (lY T o)).tmod 2 = UP T k (qX T o 0) (lY T o) % 2 := Int.tmod_eq_emod_of_nonneg (by omega)
    have rest : T.2.2.2.2.1 k = T.2.2.2.2.1 o → ¬ (T.2.2.2.2.2.1 k < 0 ↔ T.2.2.2.2.2.1 o < 0) → (∃ Q119 : Int32 → Unit → Prop, wp_M_upright 900 900 3600 3600 fs ff fy fx (iI k) (iI (qX T o 0)) (iI (lY T o)) Q119 ∧ ∀ (r119 : Int32), Q119 r119 () → (¬ (r119 - r119 / (iI 2) * (iI 2)) = (iI 1) → back (iI F, iI ((k : Int) + 1))) ∧ ((r119 - r119 / (iI 2) * (iI 2)) = (iI 1) → (F = -1 → back (iI k, iI ((k : Int) + 1))) ∧ (¬ F = -1 → vp_in (iI k) 900 ∧ ∃ Q141 : Int32 → Unit → Prop, wp_M_size (iI (T.2.2.2.2.2.1 k)) Q141 ∧ ∀ (r141 : Int32), Q141 r141 () → vp_in (iI F) 900 ∧ ∃ Q151 : Int32 → Unit → Prop, wp_M_size (fa F.toNat) Q151 ∧ ∀ (r151 : Int32), Q151 r151 () → (r151 ≤ r141 → back (iI F, iI ((k : Int) + 1))) ∧ (¬ r151 ≤ r141 → back (iI k, iI ((k : Int) + 1)))))) := by
      intro z1 z2
      refine call_i (fun Q q => t_M_upright hT hR hkn (by omega) (by omega) q) ?_
      simp (disch := omega) only [iI_lit, iI_neg, iI_add, iI_sub, iI_mul, iI_nI, iI_ofNat, iI_lt, iI_le, iI_eq, iI_cl, bI_0, bI_1, forall_eq, forall_eq_apply_imp_iff, not_true_eq_false, not_false_eq_true, ne_eq, Classical.not_not, true_imp_iff, false_imp_iff, and_true, true_and, Int.reduceEq, Int.reduceLT, Int.reduceLE, Int.reduceNeg, implies_true, iI_rem, et]
      refine ⟨fun z3 => no (fun w => z3 w.1.2.2), fun z3 => ⟨fun z4 => yes ⟨⟨z1, z2, z3⟩, Or.inl z4⟩, fun z4 => ⟨iI_in (by omega) (by omega) (by omega), ?_⟩⟩⟩
      refine call_i (fun Q q => t_M_size (by omega) q) ?_
      refine ⟨iI_in (by omega) (by omega) (by omega), ?_⟩
      have hFn : F.toNat < T.1 := by omega
      have kF := r3 F.toNat hFn; have kB := TB_o hT hFn
      rw [kF.2.2.2]
      refine call_i (fun Q q => t_M_size (by omega) q) ?_
      simp (disch := omega) only [iI_lit, iI_neg, iI_add, iI_sub, iI_mul, iI_nI, iI_ofNat, iI_lt, iI_le, iI_eq, iI_cl, bI_0, bI_1, forall_eq, forall_eq_apply_imp_iff, not_true_eq_false, not_false_eq_true, ne_eq, Classical.not_not, true_imp_iff, false_imp_iff, and_true, true_and, Int.reduceEq, Int.reduceLT, Int.reduceLE, Int.reduceNeg, implies_true]
      exact ⟨fun z5 => no (fun w => by omega), fun z5 => yes ⟨⟨z1, z2, z3⟩, Or.inr (by omega)⟩⟩
    simp (disch := omega) only [iI_lit, iI_neg, iI_add, iI_sub, iI_mul, iI_nI, iI_ofNat, iI_lt, iI_le, iI_eq, iI_cl, bI_0, bI_1, forall_eq, forall_eq_apply_imp_iff, not_true_eq_false, not_false_eq_true, ne_eq, Classical.not_not, true_imp_iff, false_imp_iff, and_true, true_and, Int.reduceEq, Int.reduceLT, Int.reduceLE, Int.reduceNeg, implies_true]
    refine ⟨fun z1 => no (fun w => z1 w.1.1), fun z1 => ⟨iI_in (by omega) (by omega) (by omega), fun z2 => ?_, fun z2 => ?_⟩⟩
    · by_cases e : T.2.2.2.2.2.1 o < 0
      · rw [cI_t e] at ehh; subst ehh
        simp (disch := omega) only [iI_lit, iI_neg, iI_add, iI_sub, iI_mul, iI_nI, iI_ofNat, iI_lt, iI_le, iI_eq, iI_cl, bI_0, bI_1, forall_eq, forall_eq_apply_imp_iff, not_true_eq_false, not_false_eq_true, ne_eq, Classical.not_not, true_imp_iff, false_imp_iff, and_true, true_and, Int.reduceEq, Int.reduceLT, Int.reduceLE, Int.reduceNeg, implies_true]
        exact rest z1 (by omega)
      · rw [cI_f e] at ehh; subst ehh
        simp (disch := omega) only [iI_lit, iI_neg, iI_add, iI_sub, iI_mul, iI_nI, iI_ofNat, iI_lt, iI_le, iI_eq, iI_cl, bI_0, bI_1, forall_eq, forall_eq_apply_imp_iff, not_true_eq_false, not_false_eq_true, ne_eq, Classical.not_not, true_imp_iff, false_imp_iff, and_true, true_and, Int.reduceEq, Int.reduceLT, Int.reduceLE, Int.reduceNeg, implies_true]
        exact no (fun w => w.1.2.1 (by omega))
    · by_cases e : T.2.2.2.2.2.1 o < 0
      · rw [cI_t e] at ehh; subst ehh
        simp (disch := omega) only [iI_lit, iI_neg, iI_add, iI_sub, iI_mul, iI_nI, iI_ofNat, iI_lt, iI_le, iI_eq, iI_cl, bI_0, bI_1, forall_eq, forall_eq_apply_imp_iff, not_true_eq_false, not_false_eq_true, ne_eq, Classical.not_not, true_imp_iff, false_imp_iff, and_true, true_and, Int.reduceEq, Int.reduceLT, Int.reduceLE, Int.reduceNeg, implies_true]
        exact no (fun w => w.1.2.1 (by omega))
      · rw [cI_f e] at ehh; subst ehh
        simp (disch := omega) only [iI_lit, iI_neg, iI_add, iI_sub, iI_mul, iI_nI, iI_ofNat, iI_lt, iI_le, iI_eq, iI_cl, bI_0, bI_1, forall_eq, forall_eq_apply_imp_iff, not_true_eq_false, not_false_eq_true, ne_eq, Classical.not_not, true_imp_iff, false_imp_iff, and_true, true_and, Int.reduceEq, Int.reduceLT, Int.reduceLE, Int.reduceNeg, implies_true]
        exact rest z1 (by omega)
  unfold wp_M_liesIn wp_M_liesIn_J14
  simp (disch := omega) only [iI_lit, iI_neg, iI_add, iI_sub, iI_mul, iI_nI, iI_ofNat, iI_lt, iI_le, iI_eq, iI_cl, bI_0, bI_1, forall_eq, forall_eq_apply_imp_iff, not_true_eq_false, not_false_eq_true, ne_eq, Classical.not_not, true_imp_iff, false_imp_iff, and_true, true_and, Int.reduceEq, Int.reduceLT, Int.reduceLE, Int.reduceNeg, implies_true, Int.toNat_natCast]
  rw [h3.2.2.2]
  simp (disch := omega) only [iI_lit, iI_neg, iI_add, iI_sub, iI_mul, iI_nI, iI_ofNat, iI_lt, iI_le, iI_eq, iI_cl, bI_0, bI_1, forall_eq, forall_eq_apply_imp_iff, not_true_eq_false, not_false_eq_true, ne_eq, Classical.not_not, true_imp_iff, false_imp_iff, and_true, true_and, Int.reduceEq, Int.reduceLT, Int.reduceLE, Int.reduceNeg, implies_true]
  rw [show (0 : Int) = ((0 : Nat) : Int) from rfl]
  refine ⟨iI_in (by omega) (by omega) (by omega), fun z => ?_, fun z => ?_⟩
  · refine call_i (fun Q q => t_M_xAt hT hR ho (by omega) q) ?_
    refine call_i (fun Q q => t_M_yAt hT hR ho (by omega) q) ?_
    have := loop 0 (by rw [cI_f (by omega)])
    simp only [iI_lit, iI_neg, iI_add, iI_sub, iI_mul, iI_nI, iI_ofNat, iI_lt, iI_le, iI_eq, iI_cl, bI_0, bI_1, forall_eq, forall_eq_apply_imp_iff, not_true_eq_false, not_false_eq_true, ne_eq, Classical.not_not]
    have e : lY T o = qY T o 0 - 1 := cI_f (by omega)
    rwa [e] at this
  · refine call_i (fun Q q => t_M_xAt hT hR ho (by omega) q) ?_
    refine call_i (fun Q q => t_M_yAt hT hR ho (by omega) q) ?_
    have := loop 1 (by rw [cI_t (by omega)])
    have e : lY T o = qY T o 0 := cI_t (by omega)
    rwa [e] at this
