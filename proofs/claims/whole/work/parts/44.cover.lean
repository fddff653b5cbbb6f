theorem t_U_outlineRound {W H nb nl na nX nY : Nat} {T : TS} {fl fb fa fx fy : Nat → Int32} (hK : KU W H nb nl na nX nY) (hT : TB W H 7 T) (hR : RC T (iI T.1) fl fb fa fx fy) {o : Nat} (ho : o < T.1) {post : Int32 → Unit → Prop} (g : post (iI (LI T o)) ()) : wp_U_outlineRound na nb nX nY nl (iI T.1) fa fb fx fy fl (iI o) post := by
  have h1 := TB_o hT ho
  have hq := (TB_q hT ho 0).1
  obtain ⟨r1, r2, r3, r4⟩ := id hR
  obtain ⟨k1, k2, k3, k4, k5, k6⟩ := id hK
  have h3 := r3 o ho
  generalize hS : W * (H + 1) + H * (W + 1) = S at *
  have loop : ∀ (hh : Int), hh = cI (T.2.2.2.2.2.1 o < 0) 1 0 → wp_U_outlineRound_J47 na nb nX nY nl (iI T.1) fa fb fx fy fl (iI o) (iI hh) (iI (qX T o 0)) (iI (1 - hh)) (iI (qY T o 0)) post := by
    intro hh ehh
    have eY : qY T o 0 - (1 - hh) = lY T o := by
      unfold lY
      by_cases e : T.2.2.2.2.2.1 o < 0
      · rw [cI_t e] at ehh ⊢; omega
      · rw [cI_f e] at ehh ⊢; omega
    have hyb : -1 ≤ lY T o ∧ lY T o ≤ 16 := cI_s (P := fun z => -1 ≤ z ∧ z ≤ 16) (fun _ => by omega) (fun _ => by omega)
    unfold wp_U_outlineRound_J47
    simp only [iI_lit, iI_neg, iI_add, iI_sub, iI_mul, iI_nI, iI_ofNat, iI_lt, iI_le, iI_eq, iI_cl, bI_0, bI_1, forall_eq, forall_eq_apply_imp_iff, not_true_eq_false, not_false_eq_true, ne_eq, Classical.not_not, true_imp_iff, false_imp_iff, and_true, true_and, Int.reduceEq, Int.reduceLT, Int.reduceLE, Int.reduceNeg, implies_true, eY]
    refine lp_n (fun k z => z.1 = iI (lf T o (qX T o 0) (lY T o) k) ∧ z.2.1 = iI (cI (lf T o (qX T o 0) (lY T o) k = -1) 2147483647 ((T.2.2.2.2.2.1 (lf T o (qX T o 0) (lY T o) k).toNat).natAbs : Int)) ∧ z.2.2 = iI k) T.1 ⟨0, by omega, rfl, by show iI _ = iI _; rw [cI_t (p := lf T o (qX T o 0) (lY T o) 0 = -1) rfl], rfl⟩ ?_
    rintro k ⟨a, b, c⟩ back hk ⟨h5, h6, h7⟩ hback
    have h5 : a = _ := h5; have h6 : b = _ := h6; have h7 : c = _ := h7; subst h5; subst h6; subst h7
    have hb := lf_b T o (qX T o 0) (lY T o) k
    have eS : lf T o (qX T o 0) (lY T o) (k + 1) = cI (lok T o (qX T o 0) (lY T o) k ∧ (lf T o (qX T o 0) (lY T o) k = -1 ∨ (T.2.2.2.2.2.1 k).natAbs < (T.2.2.2.2.2.1 (lf T o (qX T o 0) (lY T o) k).toNat).natAbs)) (k : Int) (lf T o (qX T o 0) (lY T o) k) := rfl
    simp (disch := omega) only [wp_U_outlineRound_L60, wp_U_outlineRound_J112, wp_U_outlineRound_J146, iI_lit, iI_neg, iI_add, iI_sub, iI_mul, iI_nI, iI_ofNat, iI_lt, iI_le, iI_eq, iI_cl, bI_0, bI_1, forall_eq, forall_eq_apply_imp_iff, not_true_eq_false, not_false_eq_true, ne_eq, Classical.not_not, true_imp_iff, false_imp_iff, and_true, true_and, Int.reduceEq, Int.reduceLT, Int.reduceLE, Int.reduceNeg, implies_true, Int.toNat_natCast]
    refine ⟨fun q => ?_, fun q => ?_⟩
    · obtain rfl : k = T.1 := by omega
      exact g
    have hkn : k < T.1 := by omega
    have k3' := r3 k hkn; have k1' := TB_o hT hkn
    generalize hF : lf T o (qX T o 0) (lY T o) k = F at *
    have hM : ∃ m : Int, cI (F = -1) 2147483647 ((T.2.2.2.2.2.1 F.toNat).natAbs : Int) = m ∧ (0 ≤ m ∧ m ≤ 2147483647) ∧ (F = -1 → m = 2147483647) ∧ (¬ F = -1 → m = ((T.2.2.2.2.2.1 F.toNat).natAbs : Int)) := by
      by_cases e : F = -1
      · exact ⟨_, rfl, by rw [cI_t e]; omega, fun _ => cI_t e, fun z => absurd e z⟩
      · have kB := TB_o hT (o := F.toNat) (by omega)
        exact ⟨_, rfl, by rw [cI_f e]; omega, fun z => absurd z e, fun _ => cI_f e⟩
    obtain ⟨m, em, mb, m1, m2⟩ := hM
    rw [em]
    have no : ¬ (lok T o (qX T o 0) (lY T o) k ∧ (F = -1 ∨ (T.2.2.2.2.2.1 k).natAbs < (T.2.2.2.2.2.1 F.toNat).natAbs)) → back (iI F, iI m, iI ((k : Int) + 1)) := fun z => hback _ (by omega) ⟨by show iI _ = iI _; rw [eS, cI_f z], by rw [eS, cI_f z, em], by show iI _ = iI _; congr 1⟩
    have yes : (lok T o (qX T o 0) (lY T o) k ∧ (F = -1 ∨ (T.2.2.2.2.2.1 k).natAbs < (T.2.2.2.2.2.1 F.toNat).natAbs)) → back (iI k, iI ((T.2.2.2.2.2.1 k).natAbs : Int), iI ((k : Int) + 1)) := fun z => hback _ (by omega) ⟨by show iI _ = iI _; rw [eS, cI_t z], by rw [eS, cI_t z, cI_f (by omega), Int.toNat_natCast], by show iI _ = iI _; congr 1⟩
    unfold lok at no yes
    rw [k3'.1, h3.1, k3'.2, jabs_i (by omega) (by omega)]
    have ub := UP_b T k (qX T o 0) (lY T o)
    have rest : T.2.2.2.2.1 k = T.2.2.2.2.1 o → ¬ (T.2.2.2.2.2.1 k < 0 ↔ T.2.2.2.2.2.1 o < 0) → (m ≤ (T.2.2.2.2.2.1 k).natAbs → back (iI F, iI m, iI ((k : Int) + 1))) ∧ (¬ m ≤ (T.2.2.2.2.2.1 k).natAbs → ∃ Q129 : Int32 → Unit → Prop, wp_U_uprightsLeftOf nb nX nY fb fx fy (iI k) (iI (qX T o 0)) (iI (lY T o)) Q129 ∧ ∀ (r129 : Int32), Q129 r129 () → (¬ (r129 &&& iI 1) = iI 1 → back (iI F, iI m, iI ((k : Int) + 1))) ∧ ((r129 &&& iI 1) = iI 1 → back (iI k, iI ((T.2.2.2.2.2.1 k).natAbs : Int), iI ((k : Int) + 1)))) := by
      intro z1 z2
      refine ⟨fun z3 => no (fun w => by omega), fun z3 => ?_⟩
      refine call_i (fun Q q => t_U_uprights hK hT hR hkn (by omega) (by omega) q) ?_
      simp (disch := omega) only [iI_lit, iI_neg, iI_add, iI_sub, iI_mul, iI_nI, iI_ofNat, iI_lt, iI_le, iI_eq, iI_cl, bI_0, bI_1, forall_eq, forall_eq_apply_imp_iff, not_true_eq_false, not_false_eq_true, ne_eq, Classical.not_not, true_imp_iff, false_imp_iff, and_true, true_and, Int.reduceEq, Int.reduceLT, Int.reduceLE, Int.reduceNeg, implies_true, iI_and1]
      refine ⟨fun z4 => no (fun w => z4 w.1.2.2), fun z4 => yes ⟨⟨z1, z2, z4⟩, ?_⟩⟩
      by_cases e : F = -1
      · exact Or.inl e
      · have := m2 e; exact Or.inr (by omega)
    have i1 : vp_in (iI (k : Int)) nl := iI_in (by omega) (by omega) (by omega)
    have i2 : vp_in (iI (o : Int)) nl := iI_in (by omega) (by omega) (by omega)
    rw [k2]
    simp (disch := omega) only [iI_lit, iI_neg, iI_add, iI_sub, iI_mul, iI_nI, iI_ofNat, iI_lt, iI_le, iI_eq, iI_cl, bI_0, bI_1, forall_eq, forall_eq_apply_imp_iff, not_true_eq_false, not_false_eq_true, ne_eq, Classical.not_not, true_imp_iff, false_imp_iff, and_true, true_and, Int.reduceEq, Int.reduceLT, Int.reduceLE, Int.reduceNeg, implies_true]
    refine ⟨i1, i1, i2, fun z1 => no (fun w => z1 w.1.1), fun z1 => ⟨i1, fun z2 => ?_, fun z2 => ?_⟩⟩
    · by_cases e : T.2.2.2.2.2.1 o < 0
      · rw [cI_t e] at ehh; subst ehh
        simp (disch := omega) only [iI_lit, iI_neg, iI_add, iI_sub, iI_mul, iI_nI, iI_ofNat, iI_lt, iI_le, iI_eq, iI_cl, bI_0, bI_1, forall_eq, forall_eq_apply_imp_iff, not_true_eq_false, not_false_eq_true, ne_eq, Classical.not_not, true_imp_iff, false_imp_iff, and_true, true_and, Int.reduceEq, Int.reduceLT, Int.reduceLE, Int.reduceNeg, implies_true]
        exact rest z1 (by omega)
      · rw [cI_f e] at ehh; subst ehh
        simp (disch := omega) only [iI_lit, iI_neg, iI_add, iI_sub, iI_mul, iI_nI, iI_ofNat, iI_lt, iI_le, iI_eq, iI_cl, bI_0, bI_1, forall_eq, forall_eq_apply_imp_iff, not_true_eq_false, not_false_eq_true, ne_eq, Classical.not_not, true_imp_iff, false_imp_iff, and_true, true_and, Int.reduceEq, Int.reduceLT, Int.reduceLE, Int.reduceNeg, implies_true]
        exact no (fun w => w.1.2.1 (by omega))
    · by_cases e : T.2.2.2.2.2.1 o < 0
      · rw [cI_t e] at ehh; subst ehh
        simp (disch := omega) only [iI_lit, iI_neg, iI_add, iI_sub, iI_mul, iI_nI, iI_ofNat, iI_lt, iI_le, iI_eq, iI_cl, bI_0, bI_1, forall_eq, forall_eq_apply_imp_iff, not_true_eq_false, not_false_eq_true, ne_eq, Classical.not_not, true_imp_iff, false_imp_iff, and_true, true_and, Int.reduceEq, Int.reduceLT, Int.reduceLE, Int.reduceNeg, implies_true]
        exact no (fun w => w.1.2.1 (by omega))
      · rw [cI_f e] at ehh; subst ehh
        simp (disch := omega) only [iI_lit, iI_neg, iI_add, iI_sub, iI_mul, iI_nI, iI_ofNat, iI_lt, iI_le, iI_eq, iI_cl, bI_0, bI_1, forall_eq, forall_eq_apply_imp_iff, not_true_eq_false, not_false_eq_true, ne_eq, Classical.not_not, true_imp_iff, false_imp_iff, and_true, true_and, Int.reduceEq, Int.reduceLT, Int.reduceLE, Int.reduceNeg, implies_true]
        exact rest z1 (by omega)
  have hb := r2 o (by omega)
  have hxy := r4 (T.2.1 o) (by omega)
  have e0 : T.2.2.1 (T.2.1 o) = qX T o 0 := by unfold qX; rw [Nat.zero_mod, Nat.add_zero]
  have e1 : T.2.2.2.1 (T.2.1 o) = qY T o 0 := by unfold qY; rw [Nat.zero_mod, Nat.add_zero]
  unfold wp_U_outlineRound wp_U_outlineRound_J14
  simp (disch := omega) only [iI_lit, iI_neg, iI_add, iI_sub, iI_mul, iI_nI, iI_ofNat, iI_lt, iI_le, iI_eq, iI_cl, bI_0, bI_1, forall_eq, forall_eq_apply_imp_iff, not_true_eq_false, not_false_eq_true, ne_eq, Classical.not_not, true_imp_iff, false_imp_iff, and_true, true_and, Int.reduceEq, Int.reduceLT, Int.reduceLE, Int.reduceNeg, implies_true, Int.toNat_natCast]
  rw [h3.2, hb]
  simp (disch := omega) only [iI_lit, iI_neg, iI_add, iI_sub, iI_mul, iI_nI, iI_ofNat, iI_lt, iI_le, iI_eq, iI_cl, bI_0, bI_1, forall_eq, forall_eq_apply_imp_iff, not_true_eq_false, not_false_eq_true, ne_eq, Classical.not_not, true_imp_iff, false_imp_iff, and_true, true_and, Int.reduceEq, Int.reduceLT, Int.reduceLE, Int.reduceNeg, implies_true, Int.toNat_natCast]
  rw [hxy.1, hxy.2, e0, e1]
  have i1 : vp_in (iI (o : Int)) nb := iI_in (by omega) (by omega) (by omega)
  have i2 : vp_in (iI (T.2.1 o : Int)) nX := iI_in (by omega) (by omega) (by omega)
  have i3 : vp_in (iI (o : Int)) na := iI_in (by omega) (by omega) (by omega)
  rw [k5] at loop ⊢
  refine ⟨i3, fun z => ⟨i1, i2, i1, i2, ?_⟩, fun z => ⟨i1, i2, i1, i2, ?_⟩⟩
  · exact loop 0 (by rw [cI_f (by omega)])
  · exact loop 1 (by rw [cI_t (by omega)])
-- the greatest layer at a sample
noncomputable def LSm (T : TS) (l x y : Int) : Nat → Int := sm (fun o => cI (T.2.2.2.2.1 o = l) (UP T o x y) 0)
noncomputable def cf (T : TS) (x y : Int) : Nat → Int
  | 0 => 0
  | k + 1 => cI (LSm T ((k + 1 : Nat) : Int) x y T.1 % 2 = 1) ((k + 1 : Nat) : Int) (cf T x y k)
theorem LSm_b {W H : Nat} {T : TS} (hT : TB W H 7 T) (l x y : Int) {k : Nat} (hk : k ≤ T.1) : 0 ≤ LSm T l x y k ∧ LSm T l x y k ≤ 512 * k := by
  have := sm_b (f := fun o => cI (T.2.2.2.2.1 o = l) (UP T o x y) 0) (n := k) (lo := 0) (hi := 512) (fun o ho => cI_s (P := fun z => (0:Int) ≤ z ∧ z ≤ 512) (fun _ => by
    have := UP_b T o x y; have := TB_o hT (o := o) (by omega); omega) (fun _ => by omega))
  unfold LSm; omega
theorem cf_b (T : TS) (x y : Int) (k : Nat) : 0 ≤ cf T x y k ∧ cf T x y k ≤ k := by
  induction k with
  | zero => exact ⟨Int.le_refl _, Int.le_refl _⟩
  | succ k ih => exact cI_s (P := fun z => 0 ≤ z ∧ z ≤ ((k + 1 : Nat) : Int)) (fun _ => by omega) (fun _ => by omega)
theorem t_U_greatest {W H nb nl na nX nY : Nat} {T : TS} {fl fb fa fx fy : Nat → Int32} (hK : KU W H nb nl na nX nY) (hT : TB W H 7 T) (hR : RC T (iI T.1) fl fb fa fx fy) {x y : Int} (hx : -1000 ≤ x ∧ x < 1000) (hy : -1000 ≤ y ∧ y < 1000) {post : Int32 → Unit → Prop} (g : post (iI (cf T x y 7)) ()) : wp_U_greatestLayerAt nl nb nX nY (iI T.1) fl fb fx fy (iI x) (iI y) post := by
  have hc := TB_cnt hT
  obtain ⟨r1, r2, r3, r4⟩ := id hR
  obtain ⟨k1, k2, k3, k4, k5, k6⟩ := id hK
  unfold wp_U_greatestLayerAt
  simp only [iI_lit, iI_neg, iI_add, iI_sub, iI_mul, iI_nI, iI_ofNat, iI_lt, iI_le, iI_eq, iI_cl, bI_0, bI_1, forall_eq, forall_eq_apply_imp_iff, not_true_eq_false, not_false_eq_true, ne_eq, Classical.not_not, true_imp_iff, false_imp_iff, and_true, true_and, Int.reduceEq, Int.reduceLT, Int.reduceLE, Int.reduceNeg, implies_true]
  refine lp_n (fun k z => z = iI (7 - (k : Int)) ∧ cf T x y 7 = cf T x y (7 - k)) 7 ⟨0, by omega, rfl, rfl⟩ ?_
  rintro k a back hk ⟨h5, h6⟩ hback
  have h5 : a = _ := h5; subst h5
  simp (disch := omega) only [wp_U_greatestLayerAt_L3, iI_lit, iI_neg, iI_add, iI_sub, iI_mul, iI_nI, iI_ofNat, iI_lt, iI_le, iI_eq, iI_cl, bI_0, bI_1, forall_eq, forall_eq_apply_imp_iff, not_true_eq_false, not_false_eq_true, ne_eq, Classical.not_not, true_imp_iff, false_imp_iff, and_true, true_and, Int.reduceEq, Int.reduceLT, Int.reduceLE, Int.reduceNeg, implies_true]
  refine ⟨fun q => ?_, fun q => ?_⟩
  · obtain rfl : k = 7 := by omega
    rw [h6] at g; exact g
  obtain ⟨l, hl⟩ : ∃ l, 7 - k = l + 1 := ⟨6 - k, by omega⟩
  have hl' : (7 : Int) - k = ((l + 1 : Nat) : Int) := by omega
  rw [hl] at h6
  rw [hl']
  refine lp_n (fun j z => z.1 = iI (LSm T ((l + 1 : Nat) : Int) x y j) ∧ z.2 = iI j) T.1 ⟨0, by omega, rfl, rfl⟩ ?_
  rintro j ⟨a, b⟩ back2 hj ⟨h7, h8⟩ hback2
  have h7 : a = _ := h7; have h8 : b = _ := h8; subst h7; subst h8
  have hb := LSm_b hT ((l + 1 : Nat) : Int) x y hj
  have eS : LSm T ((l + 1 : Nat) : Int) x y (j + 1) = LSm T ((l + 1 : Nat) : Int) x y j + cI (T.2.2.2.2.1 j = ((l + 1 : Nat) : Int)) (UP T j x y) 0 := rfl
  simp (disch := omega) only [wp_U_greatestLayerAt_L13, wp_U_greatestLayerAt_J46, iI_lit, iI_neg, iI_add, iI_sub, iI_mul, iI_nI, iI_ofNat, iI_lt, iI_le, iI_eq, iI_cl, bI_0, bI_1, forall_eq, forall_eq_apply_imp_iff, not_true_eq_false, not_false_eq_true, ne_eq, Classical.not_not, true_imp_iff, false_imp_iff, and_true, true_and, Int.reduceEq, Int.reduceLT, Int.reduceLE, Int.reduceNeg, implies_true, iI_and1, Int.toNat_natCast]
  refine ⟨fun q => ?_, fun q => ?_⟩
  · obtain rfl : j = T.1 := by omega
    have ec : cf T x y (l + 1) = cI (LSm T ((l + 1 : Nat) : Int) x y T.1 % 2 = 1) ((l + 1 : Nat) : Int) (cf T x y l) := rfl
    refine ⟨fun z => hback _ (by omega) ⟨?_, ?_⟩, fun z => ?_⟩
    · congr 1; omega
    · rw [h6, ec, cI_f z]; congr 1; omega
    · rw [h6, ec, cI_t z] at g; exact g
  have k3' := r3 j (by omega); have k1' := TB_o hT (o := j) (by omega)
  rw [k3'.1]
  simp (disch := omega) only [iI_lit, iI_neg, iI_add, iI_sub, iI_mul, iI_nI, iI_ofNat, iI_lt, iI_le, iI_eq, iI_cl, bI_0, bI_1, forall_eq, forall_eq_apply_imp_iff, not_true_eq_false, not_false_eq_true, ne_eq, Classical.not_not, true_imp_iff, false_imp_iff, and_true, true_and, Int.reduceEq, Int.reduceLT, Int.reduceLE, Int.reduceNeg, implies_true]
  refine ⟨iI_in (by omega) (by omega) (by omega), fun z => hback2 _ (by omega) ⟨?_, ?_⟩, fun z => ?_⟩
  · show iI _ = iI _; rw [eS, cI_f z]; congr 1; omega
  · show iI _ = iI _; congr 1
  · refine call_i (fun Q q => t_U_uprights hK hT hR (by omega) (by omega) (by omega) q) ?_
    simp only [iI_lit, iI_neg, iI_add, iI_sub, iI_mul, iI_nI, iI_ofNat, iI_lt, iI_le, iI_eq, iI_cl, bI_0, bI_1, forall_eq, forall_eq_apply_imp_iff, not_true_eq_false, not_false_eq_true, ne_eq, Classical.not_not, true_imp_iff, false_imp_iff, and_true, true_and, Int.reduceEq, Int.reduceLT, Int.reduceLE, Int.reduceNeg, implies_true]
    refine hback2 _ (by omega) ⟨?_, ?_⟩
    · show iI _ = iI _; rw [eS, cI_t z]
    · show iI _ = iI _; congr 1
theorem t_M_coveredL {W H : Nat} {T : TS} {p : Int32} {cw ch ct : Int32} {ff fs fl fa fx fy : Nat → Int32} (hT : TB W H 7 T) (hR : RM T (iI T.1) p ff fs fl fa fx fy) {x y : Int} (hx : -1000 ≤ x ∧ x < 1000) (hy : -1000 ≤ y ∧ y < 1000) {code : Int32} {post : Int32 → Int32 → Prop} (g : post (iI (cf T x y 7)) code) : lpW (fun b z => wp_M_covered_L39 900 900 900 3600 3600 cw ch ct (iI T.1) fl fs ff fy fx code (iI x) (iI y) post b z.1 z.2) (iI 0, iI 1) := by
  have hc := TB_cnt hT
  obtain ⟨r1, r1', r3, r4⟩ := id hR
  refine lp_n (fun k z => z.1 = iI (cf T x y k) ∧ z.2 = iI ((k : Int) + 1)) 7 ⟨0, by omega, rfl, rfl⟩ ?_
  rintro k ⟨a, b⟩ back hk ⟨h5, h6⟩ hback
  have h5 : a = _ := h5; have h6 : b = _ := h6; subst h5; subst h6
  simp (disch := omega) only [wp_M_covered_L39, iI_lit, iI_neg, iI_add, iI_sub, iI_mul, iI_nI, iI_ofNat, iI_lt, iI_le, iI_eq, iI_cl, bI_0, bI_1, forall_eq, forall_eq_apply_imp_iff, not_true_eq_false, not_false_eq_true, ne_eq, Classical.not_not, true_imp_iff, false_imp_iff, and_true, true_and, Int.reduceEq, Int.reduceLT, Int.reduceLE, Int.reduceNeg, implies_true]
  refine ⟨fun q => ?_, fun q => ?_⟩
  · obtain rfl : k = 7 := by omega
    exact g
  rw [show ((k : Int) + 1) = ((k + 1 : Nat) : Int) by omega]
  refine lp_n (fun j z => z.1 = iI (LSm T ((k + 1 : Nat) : Int) x y j) ∧ z.2 = iI j) T.1 ⟨0, by omega, rfl, rfl⟩ ?_
  rintro j ⟨a, b⟩ back2 hj ⟨h7, h8⟩ hback2
  have h7 : a = _ := h7; have h8 : b = _ := h8; subst h7; subst h8
  have hb := LSm_b hT ((k + 1 : Nat) : Int) x y hj
  have eS : LSm T ((k + 1 : Nat) : Int) x y (j + 1) = LSm T ((k + 1 : Nat) : Int) x y j + cI (T.2.2.2.2.1 j = ((k + 1 : Nat) : Int)) (UP T j x y) 0 := rfl
  have et : (LSm T ((k + 1 : Nat) : Int) x y j).tmod 2 = LSm T ((k + 1 : Nat) : Int) x y j % 2 := Int.tmod_eq_emod_of_nonneg (by omega)
  simp (disch := omega) only [wp_M_covered_L52, wp_M_covered_J87, wp_M_covered_J110, iI_lit, iI_neg, iI_add, iI_sub, iI_mul, iI_nI, iI_ofNat, iI_lt, iI_le, iI_eq, iI_cl, bI_0, bI_1, forall_eq, forall_eq_apply_imp_iff, not_true_eq_false, not_false_eq_true, ne_eq, Classical.not_not, true_imp_iff, false_imp_iff, and_true, true_and, Int.reduceEq, Int.reduceLT, Int.reduceLE, Int.reduceNeg, implies_true, iI_rem, et, Int.toNat_natCast]
  refine ⟨fun q => ?_, fun q => ?_⟩
  · obtain rfl : j = T.1 := by omega
    have ec : cf T x y (k + 1) = cI (LSm T ((k + 1 : Nat) : Int) x y T.1 % 2 = 1) ((k + 1 : Nat) : Int) (cf T x y k) := rfl
    refine ⟨fun z => hback _ (by omega) ⟨?_, ?_⟩, fun z => hback _ (by omega) ⟨?_, ?_⟩⟩
    · show iI _ = iI _; rw [ec, cI_f z]
    · show iI _ = iI _; congr 1
    · show iI _ = iI _; rw [ec, cI_t z]
    · show iI _ = iI _; congr 1
  have k3' := r3 j (by omega); have k1' := TB_o hT (o := j) (by omega)
  rw [k3'.2.2.1]
  simp (disch := omega) only [iI_lit, iI_neg, iI_add, iI_sub, iI_mul, iI_nI, iI_ofNat, iI_lt, iI_le, iI_eq, iI_cl, bI_0, bI_1, forall_eq, forall_eq_apply_imp_iff, not_true_eq_false, not_false_eq_true, ne_eq, Classical.not_not, true_imp_iff, false_imp_iff, and_true, true_and, Int.reduceEq, Int.reduceLT, Int.reduceLE, Int.reduceNeg, implies_true]
  refine ⟨iI_in (by omega) (by omega) (by omega), fun z => hback2 _ (by omega) ⟨?_, ?_⟩, fun z => ?_⟩
  · show iI _ = iI _; rw [eS, cI_f z]
  · show iI _ = iI _; congr 1
  · refine call_i (fun Q q => t_M_upright hT hR (by omega) (by omega) (by omega) q) ?_
    simp only [iI_lit, iI_neg, iI_add, iI_sub, iI_mul, iI_nI, iI_ofNat, iI_lt, iI_le, iI_eq, iI_cl, bI_0, bI_1, forall_eq, forall_eq_apply_imp_iff, not_true_eq_false, not_false_eq_true, ne_eq, Classical.not_not, true_imp_iff, false_imp_iff, and_true, true_and, Int.reduceEq, Int.reduceLT, Int.reduceLE, Int.reduceNeg, implies_true]
    refine hback2 _ (by omega) ⟨?_, ?_⟩
    · show iI _ = iI _; rw [eS, cI_t z]
    · show iI _ = iI _; congr 1
