theorem t_M_polyK {W H : Nat} {T : TS} {cc pp : Int32} {ff fs fl fa fx fy : Nat → Int32} (hT : TB W H 7 T) (hR : RM T cc pp ff fs fl fa fx fy) {o a : Nat} (ho : o < T.1) (ha : a < 24) {s : Int} (hs : 1 ≤ s ∧ s ≤ 8) {v1 v2 code v4 v5 v6 v7 : Int32} {fc fo fk : Nat → Int32} (hF : FR (fun p k => CO T o p k s) (nn T o) a a fc fo) (han : a < nn T o) (hg : gg (fun p k => CO T o p k s) (nn T o) a 3 a < 1073741824) {cost : Int32}
    {post : Int32 → (Int32 × Int32 × Int32 × Int32 × Int32 × Int32 × (Nat → Int32) × (Nat → Int32) × (Nat → Int32)) → Prop}
    (g : ∀ fk', (∀ j, j < fN (fun p k => CO T o p k s) (nn T o) a → fk' j = iI ((KK (fun p k => CO T o p k s) (nn T o) a j : Nat) : Int)) → post (iI ((fN (fun p k => CO T o p k s) (nn T o) a : Nat) : Int)) (code, iI 1, iI o, iI ((fN (fun p k => CO T o p k s) (nn T o) a : Nat) : Int), cost, iI 0, fc, fo, fk')) :
    lpW (fun b z => wp_M_polygon_L186 900 4200 4200 900 3600 3600 512 v1 v2 fs ff fx fy code v4 v5 v6 v7 fc fo (iI o) (iI s) cost (iI ((a + nn T o : Nat) : Int)) post b z.1 z.2.1 z.2.2.1 z.2.2.2) (iI a, iI 3, iI 0, fk) := by
  have h1 := TB_o hT ho
  have hc : Hc (fun p k => CO T o p k s) := ⟨fun p k => CO_b hT ho p k hs, fun p => CO_1 T o p s⟩
  have hfol : ∀ p r k : Nat, p < nn T o → a ≤ p → r < 4 → 1 ≤ k → k ≤ 24 → gg (fun p k => CO T o p k s) (nn T o) a r p < 1073741824 → ∀ Q : Int32 → Unit → Prop, Q (bI (nxP (fun p k => CO T o p k s) (nn T o) a p r k)) () → wp_M_follows 900 900 3600 3600 4200 4200 fs ff fx fy fc fo (iI o) (iI p) (iI k) (iI r) (iI ((r - 1 : Nat) : Int)) (iI s) (iI ((a + nn T o : Nat) : Int)) Q := fun p r k z1 z2 z3 z4 z5 z6 Q q => t_M_follows hT hR ho ha hs hF z1 z2 z3 ⟨z4, z5⟩ z6 q
  generalize (fun p k => CO T o p k s) = c at *
  generalize nn T o = n at *
  have hn : 4 ≤ n ∧ n ≤ 512 := by omega
  obtain ⟨s1, s2, s3, s4⟩ := fN_s hc han hg
  refine lp_n (fun j z => z.1 = iI ((KK c n a j : Nat) : Int) ∧ z.2.1 = iI ((3 - j : Nat) : Int) ∧ z.2.2.1 = iI j ∧ ∀ i, i < j → z.2.2.2 i = iI ((KK c n a i : Nat) : Int)) (fN c n a) ⟨0, by omega, rfl, rfl, rfl, fun i hi => absurd hi (Nat.not_lt_zero i)⟩ ?_
  rintro j ⟨x, y, z, fk'⟩ back hj ⟨e1, e2, e3, e4⟩ hback
  have e1 : x = _ := e1; have e2 : y = _ := e2; have e3 : z = _ := e3; subst e1; subst e2; subst e3
  have e4 : ∀ i, i < j → fk' i = iI ((KK c n a i : Nat) : Int) := e4
  by_cases e : j = fN c n a
  · subst e
    simp only [wp_M_polygon_L186, iI_lit, iI_neg, iI_add, iI_sub, iI_mul, iI_nI, iI_ofNat, iI_lt, iI_le, iI_eq, iI_cl, bI_0, bI_1, forall_eq, forall_eq_apply_imp_iff, not_true_eq_false, not_false_eq_true, ne_eq, Classical.not_not, true_imp_iff, false_imp_iff, and_true, true_and, Int.reduceEq, Int.reduceLT, Int.reduceLE, Int.reduceNeg, implies_true, s1]
    exact g fk' e4
  · have q := s2 j (by omega)
    have hx := nx_ex hc (r := 3 - j) (show KK c n a j < a + n by omega) q.2.2
    have hP := hx.2.1
    have hP' := hP
    unfold nxP at hP'
    simp (disch := omega) only [wp_M_polygon_L186, iI_lit, iI_neg, iI_add, iI_sub, iI_mul, iI_nI, iI_ofNat, iI_lt, iI_le, iI_eq, iI_cl, bI_0, bI_1, forall_eq, forall_eq_apply_imp_iff, not_true_eq_false, not_false_eq_true, ne_eq, Classical.not_not, true_imp_iff, false_imp_iff, and_true, true_and, Int.reduceEq, Int.reduceLT, Int.reduceLE, Int.reduceNeg, implies_true, Int.toNat_natCast]
    refine ⟨fun z => by omega, fun _ => ⟨iI_in (by omega) (by omega) (by omega), ?_⟩⟩
    have inner : ∀ y0 : Int, y0 = ((3 - j - 1 : Nat) : Int) → wp_M_polygon_J230 900 4200 4200 900 3600 3600 512 v1 v2 fs ff fx fy code v4 v5 (iI ((j : Int) + 1)) v6 v7 fc fo (upd fk' j (iI ((KK c n a j : Nat) : Int))) (iI o) (iI s) cost (iI ((a + n : Nat) : Int)) (iI ((KK c n a j : Nat) : Int)) (iI ((3 - j : Nat) : Int)) (iI 1) (iI y0) back post := by
      rintro y0 rfl
      unfold wp_M_polygon_J230
      refine lp_n (fun k z => z = iI ((k + 1 : Nat) : Int) ∧ k + 1 ≤ nxk c n a (KK c n a j) (3 - j)) 24 ⟨0, by omega, rfl, by omega⟩ ?_
      rintro k x back2 hk ⟨f1, f2⟩ hback2
      have f1 : x = _ := f1; subst f1
      simp only [wp_M_polygon_L232, iI_lit, iI_neg, iI_add, iI_sub, iI_mul, iI_nI, iI_ofNat, iI_lt, iI_le, iI_eq, iI_cl, bI_0, bI_1, forall_eq, forall_eq_apply_imp_iff, not_true_eq_false, not_false_eq_true, ne_eq, Classical.not_not, true_imp_iff, false_imp_iff, and_true, true_and, Int.reduceEq, Int.reduceLT, Int.reduceLE, Int.reduceNeg, implies_true]
      refine call_i (fun Q q' => hfol _ _ (k + 1) q.1 (by omega) (by omega) (by omega) (by omega) q.2.2 Q q') ?_
      simp only [iI_lit, iI_neg, iI_add, iI_sub, iI_mul, iI_nI, iI_ofNat, iI_lt, iI_le, iI_eq, iI_cl, bI_0, bI_1, forall_eq, forall_eq_apply_imp_iff, not_true_eq_false, not_false_eq_true, ne_eq, Classical.not_not, true_imp_iff, false_imp_iff, and_true, true_and, Int.reduceEq, Int.reduceLT, Int.reduceLE, Int.reduceNeg, implies_true]
      refine ⟨fun z => ?_, fun z => ?_⟩
      · have ek : nxk c n a (KK c n a j) (3 - j) = k + 1 := by
          rcases Nat.lt_or_ge (k + 1) (nxk c n a (KK c n a j) (3 - j)) with w | w
          · exact absurd z (hx.2.2.1 _ w)
          · omega
        have eK : KK c n a (j + 1) = KK c n a j + (k + 1) := by rw [← ek]; rfl
        refine hback _ (by omega) ⟨by show iI _ = iI _; congr 1; omega, by show iI _ = iI _; congr 1, by show iI _ = iI _; congr 1, fun i hi => ?_⟩
        show upd fk' _ _ i = _
        by_cases ei : i = j
        · rw [ei, upd_t]
        · rw [upd_f _ _ ei]; exact e4 i (by omega)
      · have : ¬ nxk c n a (KK c n a j) (3 - j) = k + 1 := fun w => z (by rw [← w]; exact hP)
        exact hback2 _ (by omega) ⟨by show iI _ = iI _; congr 1, by omega⟩
    exact ⟨fun z => inner _ (by omega), fun z => inner _ (by omega)⟩
theorem t_M_polyL {W H : Nat} {T : TS} {cc pp : Int32} {ff fs fl fa fx fy : Nat → Int32} (hT : TB W H 7 T) (hR : RM T cc pp ff fs fl fa fx fy) {o : Nat} (ho : o < T.1) {s : Int} (hs : 1 ≤ s ∧ s ≤ 8) {v1 v2 code v4 v5 v6 v7 v8 : Int32} {fc fo fk : Nat → Int32}
    {post : Int32 → (Int32 × Int32 × Int32 × Int32 × Int32 × Int32 × (Nat → Int32) × (Nat → Int32) × (Nat → Int32)) → Prop}
    (g : ∀ fc' fo' fk', (∀ j, j < fN (fun p k => CO T o p k s) (nn T o) (bA (fun p k => CO T o p k s) (nn T o)) → fk' j = iI ((KK (fun p k => CO T o p k s) (nn T o) (bA (fun p k => CO T o p k s) (nn T o)) j : Nat) : Int)) → post (iI ((fN (fun p k => CO T o p k s) (nn T o) (bA (fun p k => CO T o p k s) (nn T o)) : Nat) : Int)) (code, iI 1, iI o, iI ((fN (fun p k => CO T o p k s) (nn T o) (bA (fun p k => CO T o p k s) (nn T o)) : Nat) : Int), iI (gS (fun p k => CO T o p k s) (nn T o) (bA (fun p k => CO T o p k s) (nn T o)) % 262144), iI 0, fc', fo', fk')) :
    lpW (fun b z => wp_M_polygon_L65 900 4200 4200 900 3600 3600 512 v1 v2 fs ff fx fy code v4 v5 v6 v7 v8 fk (iI o) (iI s) post b z.1 z.2.1 z.2.2.1 z.2.2.2.1 z.2.2.2.2.1 z.2.2.2.2.2) (iI (-1), iI 1000000000, iI 0, iI 0, fc, fo) := by
  have h1 := TB_o hT ho
  have h3 := hR.2.2.1 o ho
  have hc : Hc (fun p k => CO T o p k s) := ⟨fun p k => CO_b hT ho p k hs, fun p => CO_1 T o p s⟩
  have hn : 4 ≤ nn T o ∧ nn T o ≤ 512 := by omega
  obtain ⟨b1, b2, b3, b4, b5, -, -⟩ := bA_s hc hn
  have hsz : fs o = iI ((nn T o : Nat) : Int) := h3.2.1
  have hvo : vp_in (iI (o : Int)) 900 := iI_in (by omega) (by omega) (by omega)
  refine lp_n (fun k z => z.1 = iI (bi (fun p k => CO T o p k s) (nn T o) k) ∧ (∃ cn co, z.2.1 = iI cn ∧ z.2.2.1 = iI co ∧ RP cn co (lo (gS (fun p k => CO T o p k s) (nn T o)) k) 600) ∧ z.2.2.2.1 = iI k) (min 24 (nn T o)) ⟨0, by omega, rfl, ⟨1000000000, 0, rfl, rfl, Or.inr ⟨rfl, rfl, rfl⟩⟩, rfl⟩ ?_
  rintro k ⟨x3, x4, x5, x6, fc1, fo1⟩ back hk ⟨e1, ⟨cn, co, e2, e3, e4⟩, e5⟩ hback
  have e1 : x3 = _ := e1; have e2 : x4 = _ := e2; have e3 : x5 = _ := e3; have e5 : x6 = _ := e5; subst e1; subst e2; subst e3; subst e5
  have rb := RP_b e4 (by omega)
  have fin : k = min 24 (nn T o) → wp_M_polygon_J158 900 4200 4200 900 3600 3600 512 v1 v2 fs ff fx fy code v4 v5 v6 v7 v8 fc1 fo1 fk (iI o) (iI s) (iI (bi (fun p k => CO T o p k s) (nn T o) k)) (iI co) post := by
    rintro rfl
    rw [b3]
    unfold wp_M_polygon_J158
    refine ⟨fun u => FR (fun p k => CO T o p k s) (nn T o) (bA (fun p k => CO T o p k s) (nn T o)) (bA (fun p k => CO T o p k s) (nn T o)) u.1 u.2, t_M_fill hT hR ho b1 hs (fun fc' fo' h => h), ?_⟩
    intro fc' fo' hF
    rw [iI_cl (by omega) (by omega), Int.toNat_natCast, hsz]
    simp only [iI_lit, iI_neg, iI_add, iI_sub, iI_mul, iI_nI, iI_ofNat, iI_lt, iI_le, iI_eq, iI_cl, bI_0, bI_1, forall_eq, forall_eq_apply_imp_iff, not_true_eq_false, not_false_eq_true, ne_eq, Classical.not_not, true_imp_iff, false_imp_iff, and_true, true_and, Int.reduceEq, Int.reduceLT, Int.reduceLE, Int.reduceNeg, implies_true]
    rw [show ((bA (fun p k => CO T o p k s) (nn T o) : Nat) : Int) + (nn T o : Nat) = ((bA (fun p k => CO T o p k s) (nn T o) + nn T o : Nat) : Int) by omega]
    refine ⟨hvo, t_M_polyK hT hR ho b1 hs hF b2 b5 (fun fk' hk' => ?_)⟩
    have eco : co = gS (fun p k => CO T o p k s) (nn T o) (bA (fun p k => CO T o p k s) (nn T o)) % 262144 := by
      have b5' : gS (fun p k => CO T o p k s) (nn T o) (bA (fun p k => CO T o p k s) (nn T o)) < 1073741824 := b5
      rw [b4]; rw [b4] at b5'
      unfold RP at e4
      omega
    rw [eco]
    exact g _ _ _ hk'
  simp (disch := omega) only [wp_M_polygon_L65, wp_M_polygon_J152, iI_lit, iI_neg, iI_add, iI_sub, iI_mul, iI_nI, iI_ofNat, iI_lt, iI_le, iI_eq, iI_cl, bI_0, bI_1, forall_eq, forall_eq_apply_imp_iff, not_true_eq_false, not_false_eq_true, ne_eq, Classical.not_not, true_imp_iff, false_imp_iff, and_true, true_and, Int.reduceEq, Int.reduceLT, Int.reduceLE, Int.reduceNeg, implies_true, Int.toNat_natCast]
  rw [hsz]
  simp (disch := omega) only [iI_lit, iI_neg, iI_add, iI_sub, iI_mul, iI_nI, iI_ofNat, iI_lt, iI_le, iI_eq, iI_cl, bI_0, bI_1, forall_eq, forall_eq_apply_imp_iff, not_true_eq_false, not_false_eq_true, ne_eq, Classical.not_not, true_imp_iff, false_imp_iff, and_true, true_and, Int.reduceEq, Int.reduceLT, Int.reduceLE, Int.reduceNeg, implies_true]
  refine ⟨fun z => fin (by omega), fun z => ⟨hvo, fun z2 => fin (by omega), fun z2 => ?_⟩⟩
  refine ⟨fun u => FR (fun p k => CO T o p k s) (nn T o) k k u.1 u.2, t_M_fill hT hR ho (by omega) hs (fun fc' fo' h => h), ?_⟩
  intro fc' fo' hF
  obtain ⟨an, ac, a1, a2, a3⟩ := hF 3 k (by omega) (by omega) (by omega)
  have ab := RP_b a3 (by omega)
  rw [show (1800 + (k : Int)).toNat = 600 * 3 + k by omega]
  have a1 : fc' (600 * 3 + k) = iI an := a1
  have a2 : fo' (600 * 3 + k) = iI ac := a2
  rw [a1, a2]
  have i1 : vp_in (iI (1800 + (k : Int))) 4200 := iI_in (by omega) (by omega) (by omega)
  refine ⟨i1, i1, ?_⟩
  refine call_i (fun Q q => t_M_isLess (by omega) (by omega) (by omega) (by omega) q) ?_
  have hlt := RP_lt2 a3 e4 (by omega) (by omega)
  have eB : bi (fun p k => CO T o p k s) (nn T o) (k + 1) = cI (gS (fun p k => CO T o p k s) (nn T o) k < lo (gS (fun p k => CO T o p k s) (nn T o)) k) (k : Int) (bi (fun p k => CO T o p k s) (nn T o) k) := rfl
  have eL : lo (gS (fun p k => CO T o p k s) (nn T o)) (k + 1) = min (lo (gS (fun p k => CO T o p k s) (nn T o)) k) (gS (fun p k => CO T o p k s) (nn T o) k) := rfl
  have egs : gS (fun p k => CO T o p k s) (nn T o) k = gg (fun p k => CO T o p k s) (nn T o) k 3 k := rfl
  simp only [iI_lit, iI_neg, iI_add, iI_sub, iI_mul, iI_nI, iI_ofNat, iI_lt, iI_le, iI_eq, iI_cl, bI_0, bI_1, forall_eq, forall_eq_apply_imp_iff, not_true_eq_false, not_false_eq_true, ne_eq, Classical.not_not, true_imp_iff, false_imp_iff, and_true, true_and, Int.reduceEq, Int.reduceLT, Int.reduceLE, Int.reduceNeg, implies_true]
  refine ⟨fun z3 => ?_, fun z3 => ⟨i1, i1, ?_⟩⟩
  · have hno : ¬ gS (fun p k => CO T o p k s) (nn T o) k < lo (gS (fun p k => CO T o p k s) (nn T o)) k := fun w => z3 (hlt.2 w)
    refine hback _ (by omega) ⟨by rw [eB, cI_f hno], ⟨cn, co, rfl, rfl, ?_⟩, by show iI _ = iI _; congr 1⟩
    rw [eL, show min (lo (gS (fun p k => CO T o p k s) (nn T o)) k) (gS (fun p k => CO T o p k s) (nn T o) k) = lo (gS (fun p k => CO T o p k s) (nn T o)) k by omega]; exact e4
  · have hyes : gS (fun p k => CO T o p k s) (nn T o) k < lo (gS (fun p k => CO T o p k s) (nn T o)) k := hlt.1 z3
    refine hback _ (by omega) ⟨by rw [eB, cI_t hyes], ⟨an, ac, rfl, rfl, ?_⟩, by show iI _ = iI _; congr 1⟩
    rw [eL, show min (lo (gS (fun p k => CO T o p k s) (nn T o)) k) (gS (fun p k => CO T o p k s) (nn T o) k) = gS (fun p k => CO T o p k s) (nn T o) k by omega]; exact RP_mono a3 (by omega)
