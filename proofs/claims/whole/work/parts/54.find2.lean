theorem iI_and18 {a : Int} : iI a &&& iI 262143 = iI (a % 262144) := by
  have h : iI a &&& iI 262143 = nI ((iI a).toBitVec.toNat % 2 ^ 18) := pk_and (iI a) 18 (by rw [iI_d]; rfl)
  rw [h, iI_nI]
  congr 1
  have e : ((iI a).toBitVec.toNat : Int) = a % 4294967296 := by
    rw [iI_d]
    show ((BitVec.ofInt 32 a).toNat : Int) = _
    rw [BitVec.toNat_ofInt]
    have : (0:Int) ≤ a % 4294967296 := Int.emod_nonneg _ (by decide)
    show ((a % 4294967296).toNat : Int) = _
    omega
  omega
-- the corners of a polygon of outline o: numbers K of points, N of them
def pX (T : TS) (o : Nat) (K : Nat → Nat) (N j : Nat) : Int := qX T o (K (j % N))
def pY (T : TS) (o : Nat) (K : Nat → Nat) (N j : Nat) : Int := qY T o (K (j % N))
theorem pXY_G {W H : Nat} {T : TS} (hT : TB W H 7 T) {o : Nat} (ho : o < T.1) (K : Nat → Nat) {N : Nat} (hN : 3 ≤ N ∧ N ≤ 512) : PG (pX T o K N) (pY T o K N) N := by
  refine ⟨hN, fun j => (TB_q hT ho _).1, fun j => ?_⟩
  unfold pX pY
  rw [Nat.mod_mod]; exact ⟨rfl, rfl⟩
theorem t_G_measure {W H nb nl na nX nY : Nat} {T : TS} {c : Int32} {fl fb fa fx fy : Nat → Int32} (hK : KU W H nb nl na nX nY) (hT : TB W H 7 T) (hR : RC T c fl fb fa fx fy) {o : Nat} (ho : o < T.1) {K : Nat → Nat} {N S : Nat} (hN : 3 ≤ N ∧ N ≤ 512) (hNS : N ≤ S ∧ S < 10000) {gx gy ga gt' gp : Nat → Int32} (hp : ∀ j, j < N → gp j = iI ((K j : Nat) : Int) ∧ K j < nn T o) {post : ((Nat → Int32) × (Nat → Int32) × (Nat → Int32) × (Nat → Int32)) → Prop}
    (g : ∀ gx' gy' ga' gt'', (∀ j, j < N → gx' j = iI (pX T o K N j) ∧ gy' j = iI (pY T o K N j) ∧ ga' j = iI (ag (pX T o K N) (pY T o K N) N j) ∧ gt'' j = iI (tu (pX T o K N) (pY T o K N) N j)) → post (gx', gy', ga', gt'')) : wp_G_measure nb S S S S S nX nY (iI N) fb gx gy ga gt' gp fx fy (iI o) post := by
  have h1 := TB_o hT ho
  obtain ⟨r1, r2, r3, r4⟩ := id hR
  obtain ⟨k1, k2, k3, k4, k5, k6⟩ := id hK
  have hG := pXY_G hT ho K hN
  unfold wp_G_measure
  rw [iI_cl (by omega) (by omega), Int.toNat_natCast, r2 o (by omega)]
  simp only [iI_lit, iI_neg, iI_add, iI_sub, iI_mul, iI_nI, iI_ofNat, iI_lt, iI_le, iI_eq, iI_cl, bI_0, bI_1, forall_eq, forall_eq_apply_imp_iff, not_true_eq_false, not_false_eq_true, ne_eq, Classical.not_not, true_imp_iff, false_imp_iff, and_true, true_and, Int.reduceEq, Int.reduceLT, Int.reduceLE, Int.reduceNeg, implies_true]
  refine ⟨iI_in (by omega) (by omega) (by omega), ?_⟩
  refine lp_n (fun k z => z.1 = iI k ∧ ∀ j, j < k → z.2.1 j = iI (pX T o K N j) ∧ z.2.2 j = iI (pY T o K N j)) N ⟨0, by omega, rfl, fun j hj => absurd hj (Nat.not_lt_zero j)⟩ ?_
  rintro k ⟨x, gx1, gy1⟩ back hk ⟨e1, e2⟩ hback
  have e1 : x = _ := e1; subst e1
  have e2 : ∀ j, j < k → gx1 j = iI (pX T o K N j) ∧ gy1 j = iI (pY T o K N j) := e2
  simp (disch := omega) only [wp_G_measure_L12, iI_lit, iI_neg, iI_add, iI_sub, iI_mul, iI_nI, iI_ofNat, iI_lt, iI_le, iI_eq, iI_cl, bI_0, bI_1, forall_eq, forall_eq_apply_imp_iff, not_true_eq_false, not_false_eq_true, ne_eq, Classical.not_not, true_imp_iff, false_imp_iff, and_true, true_and, Int.reduceEq, Int.reduceLT, Int.reduceLE, Int.reduceNeg, implies_true, Int.toNat_natCast]
  refine ⟨fun z => ?_, fun z => ?_⟩
  · obtain rfl : k = N := by omega
    refine lp_n (fun m z => z.1 = iI m ∧ ∀ j, j < m → z.2.1 j = iI (ag (pX T o K k) (pY T o K k) k j) ∧ z.2.2 j = iI (tu (pX T o K k) (pY T o K k) k j)) k ⟨0, by omega, rfl, fun j hj => absurd hj (Nat.not_lt_zero j)⟩ ?_
    rintro m ⟨x, ga1, gt1⟩ back2 hm ⟨f1, f2⟩ hback2
    have f1 : x = _ := f1; subst f1
    have f2 : ∀ j, j < m → ga1 j = iI (ag (pX T o K k) (pY T o K k) k j) ∧ gt1 j = iI (tu (pX T o K k) (pY T o K k) k j) := f2
    simp (disch := omega) only [wp_G_measure_L72, iI_lit, iI_neg, iI_add, iI_sub, iI_mul, iI_nI, iI_ofNat, iI_lt, iI_le, iI_eq, iI_cl, bI_0, bI_1, forall_eq, forall_eq_apply_imp_iff, not_true_eq_false, not_false_eq_true, ne_eq, Classical.not_not, true_imp_iff, false_imp_iff, and_true, true_and, Int.reduceEq, Int.reduceLT, Int.reduceLE, Int.reduceNeg, implies_true]
    refine ⟨fun w => ?_, fun w => ?_⟩
    · obtain rfl : m = k := by omega
      exact g _ _ _ _ (fun j hj => ⟨(e2 j hj).1, (e2 j hj).2, f2 j hj⟩)
    · refine ⟨fun u => u = (upd ga1 m (iI (ag (pX T o K k) (pY T o K k) k m)), upd gt1 m (iI (tu (pX T o K k) (pY T o K k) k m))), t_G_measureCorner hG hNS hNS hNS hNS e2 (by omega) rfl, ?_⟩
      rintro u0 u1 e
      simp only [Prod.mk.injEq] at e
      obtain ⟨rfl, rfl⟩ := e
      refine hback2 _ (by omega) ⟨by show iI _ = iI _; congr 1, fun j hj => ?_⟩
      show upd ga1 _ _ j = _ ∧ upd gt1 _ _ j = _
      by_cases ej : j = m
      · rw [ej, upd_t, upd_t]; exact ⟨rfl, rfl⟩
      · rw [upd_f _ _ ej, upd_f _ _ ej]; exact f2 j (by omega)
  · have hpk := hp k (by omega)
    have hq := RC_q hT hR ho (K k)
    rw [Nat.mod_eq_of_lt hpk.2] at hq
    rw [hpk.1]
    simp only [iI_lit, iI_neg, iI_add, iI_sub, iI_mul, iI_nI, iI_ofNat, iI_lt, iI_le, iI_eq, iI_cl, bI_0, bI_1, forall_eq, forall_eq_apply_imp_iff, not_true_eq_false, not_false_eq_true, ne_eq, Classical.not_not, true_imp_iff, false_imp_iff, and_true, true_and, Int.reduceEq, Int.reduceLT, Int.reduceLE, Int.reduceNeg, implies_true]
    rw [show ((T.2.1 o : Int) + ((K k : Nat) : Int)) = ((T.2.1 o + K k : Nat) : Int) by omega, iI_cl (by omega) (by omega), Int.toNat_natCast, hq.1, hq.2]
    have i1 : vp_in (iI (k : Int)) S := iI_in (by omega) (by omega) (by omega)
    have i2 : vp_in (iI ((T.2.1 o + K k : Nat) : Int)) nX := iI_in (by omega) (by omega) (by omega)
    rw [k5]
    refine ⟨i1, i2, i1, i1, i2, i1, hback _ (by omega) ⟨by show iI _ = iI _; congr 1, fun j hj => ?_⟩⟩
    show upd gx1 _ _ j = _ ∧ upd gy1 _ _ j = _
    by_cases ej : j = k
    · rw [ej, upd_t, upd_t]
      unfold pX pY
      rw [Nat.mod_eq_of_lt (by omega)]; exact ⟨rfl, rfl⟩
    · rw [upd_f _ _ ej, upd_f _ _ ej]; exact e2 j (by omega)
theorem t_G_weighPieces {W H nb nl na nX nY : Nat} {T : TS} {c : Int32} {fl fb fa fx fy : Nat → Int32} (hK : KU W H nb nl na nX nY) (hT : TB W H 7 T) (hR : RC T c fl fb fa fx fy) {o : Nat} (ho : o < T.1) {s : Int} (hs : 1 ≤ s ∧ s ≤ 8) {nc : Nat} (hnc : nn T o * 24 ≤ nc) (hnc2 : nc < 100000) {fc : Nat → Int32} {post : (Nat → Int32) → Prop} (g : ∀ fc', CA (fun p k => CO T o p k s) (nn T o) fc' → post fc') : wp_G_weighPieces nb nX nY nc fb fx fy fc (iI o) (iI ((nn T o : Nat) : Int)) (iI s) post := by
  have h1 := TB_o hT ho
  unfold wp_G_weighPieces
  simp only [iI_lit, iI_neg, iI_add, iI_sub, iI_mul, iI_nI, iI_ofNat, iI_lt, iI_le, iI_eq, iI_cl, bI_0, bI_1, forall_eq, forall_eq_apply_imp_iff, not_true_eq_false, not_false_eq_true, ne_eq, Classical.not_not, true_imp_iff, false_imp_iff, and_true, true_and, Int.reduceEq, Int.reduceLT, Int.reduceLE, Int.reduceNeg, implies_true]
  refine lp_n (fun i z => z.1 = iI i ∧ CA (fun p k => CO T o p k s) i z.2) (nn T o) ⟨0, by omega, rfl, fun i k hi => absurd hi (Nat.not_lt_zero i)⟩ ?_
  rintro i ⟨x, fc1⟩ back hi ⟨e1, e2⟩ hback
  have e1 : x = _ := e1; subst e1
  have e2 : CA (fun p k => CO T o p k s) i fc1 := e2
  simp (disch := omega) only [wp_G_weighPieces_L3, iI_lit, iI_neg, iI_add, iI_sub, iI_mul, iI_nI, iI_ofNat, iI_lt, iI_le, iI_eq, iI_cl, bI_0, bI_1, forall_eq, forall_eq_apply_imp_iff, not_true_eq_false, not_false_eq_true, ne_eq, Classical.not_not, true_imp_iff, false_imp_iff, and_true, true_and, Int.reduceEq, Int.reduceLT, Int.reduceLE, Int.reduceNeg, implies_true]
  refine ⟨fun z => ?_, fun z => ?_⟩
  · obtain rfl : i = nn T o := by omega
    exact g _ e2
  · refine lp_n (fun m z => z.1 = iI ((m : Int) + 1) ∧ CA (fun p k => CO T o p k s) i z.2 ∧ ∀ k, 1 ≤ k → k ≤ m → z.2 (i * 24 + (k - 1)) = iI (CO T o i k s)) 24 ⟨0, by omega, rfl, e2, fun k h1 h2 => by omega⟩ ?_
    rintro m ⟨x, fc2⟩ back2 hm ⟨f1, f2, f3⟩ hback2
    have f1 : x = _ := f1; subst f1
    have f2 : CA (fun p k => CO T o p k s) i fc2 := f2
    have f3 : ∀ k, 1 ≤ k → k ≤ m → fc2 (i * 24 + (k - 1)) = iI (CO T o i k s) := f3
    simp (disch := omega) only [wp_G_weighPieces_L12, iI_lit, iI_neg, iI_add, iI_sub, iI_mul, iI_nI, iI_ofNat, iI_lt, iI_le, iI_eq, iI_cl, bI_0, bI_1, forall_eq, forall_eq_apply_imp_iff, not_true_eq_false, not_false_eq_true, ne_eq, Classical.not_not, true_imp_iff, false_imp_iff, and_true, true_and, Int.reduceEq, Int.reduceLT, Int.reduceLE, Int.reduceNeg, implies_true]
    refine ⟨fun w => ?_, fun w => ?_⟩
    · obtain rfl : m = 24 := by omega
      refine hback _ (by omega) ⟨by show iI _ = iI _; congr 1, fun p k hp k1 k2 => ?_⟩
      by_cases ep : p = i
      · rw [ep]; exact f3 k k1 k2
      · exact f2 p k (by omega) k1 k2
    · rw [show (m : Int) + 1 = ((m + 1 : Nat) : Int) by omega]
      refine call_i (fun Q q => t_U_costOf hK hT hR ho (by omega) (by omega) hs q) ?_
      rw [show ((i : Int) * 24 + ((m + 1 : Nat) : Int) - 1).toNat = i * 24 + m by omega]
      refine ⟨iI_in (by omega) (by omega) (by omega), hback2 _ (by omega) ⟨by show iI _ = iI _; congr 1, fun p k hp k1 k2 => ?_, fun k k1 k2 => ?_⟩⟩
      · show upd fc2 _ _ _ = _
        rw [upd_f _ _ (by omega)]; exact f2 p k hp k1 k2
      · show upd fc2 _ _ _ = _
        by_cases ek : k = m + 1
        · subst ek; rw [show m + 1 - 1 = m by omega, upd_t]
        · rw [upd_f _ _ (by omega)]; exact f3 k k1 (by omega)
-- the polygon that is found: how many corners, which points, its cost
noncomputable def fnd (T : TS) (o : Nat) (s : Int) : Nat := fN (fun p k => CO T o p k s) (nn T o) (bA (fun p k => CO T o p k s) (nn T o))
noncomputable def fndK (T : TS) (o : Nat) (s : Int) : Nat → Nat := KK (fun p k => CO T o p k s) (nn T o) (bA (fun p k => CO T o p k s) (nn T o))
noncomputable def fndC (T : TS) (o : Nat) (s : Int) : Int := gS (fun p k => CO T o p k s) (nn T o) (bA (fun p k => CO T o p k s) (nn T o)) % 262144
theorem fnd_s {W H : Nat} {T : TS} (hT : TB W H 7 T) {o : Nat} (ho : o < T.1) {s : Int} (hs : 1 ≤ s ∧ s ≤ 8) : 3 ≤ fnd T o s ∧ fnd T o s ≤ nn T o ∧ (∀ j, j < fnd T o s → fndK T o s j < nn T o) := by
  have h1 := TB_o hT ho
  have hc : Hc (fun p k => CO T o p k s) := ⟨fun p k => CO_b hT ho p k hs, fun p => CO_1 T o p s⟩
  obtain ⟨b1, b2, b3, b4, b5, -, -⟩ := bA_s hc (show 4 ≤ nn T o ∧ nn T o ≤ 512 by omega)
  obtain ⟨s1, s2, s3, s4⟩ := fN_s hc b2 b5
  exact ⟨s3, s4, fun j hj => (s2 j hj).1⟩
theorem t_G_find {W H nb nl na nX nY : Nat} {T : TS} {c : Int32} {fl fb fa fx fy : Nat → Int32} (hK : KU W H nb nl na nX nY) (hT : TB W H 7 T) (hR : RC T c fl fb fa fx fy) {o : Nat} (ho : o < T.1) {s : Int} (hs : 1 ≤ s ∧ s ≤ 8) {S nc : Nat} (hS : S = W * (H + 1) + H * (W + 1)) (hSb : S < 600) (hnc : nc = S * 24) {cn co : Int32} {gp gc g2 g1 gx gy ga gt' : Nat → Int32} {post : Int32 → (Int32 × Int32 × (Nat → Int32) × (Nat → Int32) × (Nat → Int32) × (Nat → Int32) × (Nat → Int32) × (Nat → Int32) × (Nat → Int32) × (Nat → Int32)) → Prop}
    (g : ∀ gp' gc' g2' g1' gx' gy' ga' gt'', (∀ j, j < fnd T o s → gp' j = iI ((fndK T o s j : Nat) : Int) ∧ gx' j = iI (pX T o (fndK T o s) (fnd T o s) j) ∧ gy' j = iI (pY T o (fndK T o s) (fnd T o s) j) ∧ ga' j = iI (ag (pX T o (fndK T o s) (fnd T o s)) (pY T o (fndK T o s) (fnd T o s)) (fnd T o s) j) ∧ gt'' j = iI (tu (pX T o (fndK T o s) (fnd T o s)) (pY T o (fndK T o s) (fnd T o s)) (fnd T o s) j)) → post (iI ((fnd T o s : Nat) : Int)) (iI ((fnd T o s : Nat) : Int), iI (fndC T o s), gp', gc', g2', g1', gx', gy', ga', gt'')) :
    wp_G_find nb S nX nY nc S S S S S S cn co fb gp fx fy gc g2 g1 gx gy ga gt' (iI o) (iI s) post := by
  have h1 := TB_o hT ho
  obtain ⟨r1, r2, r3, r4⟩ := id hR
  obtain ⟨k1, k2, k3, k4, k5, k6⟩ := id hK
  have hc : Hc (fun p k => CO T o p k s) := ⟨fun p k => CO_b hT ho p k hs, fun p => CO_1 T o p s⟩
  have hn : 4 ≤ nn T o ∧ nn T o ≤ 512 := by omega
  obtain ⟨b1, b2, b3, b4, b5, b6, b7⟩ := bA_s hc hn
  have hfs := fnd_s hT ho hs
  have hSn : nn T o ≤ S := by omega
  unfold wp_G_find wp_U_length
  simp (disch := omega) only [iI_lit, iI_neg, iI_add, iI_sub, iI_mul, iI_nI, iI_ofNat, iI_lt, iI_le, iI_eq, iI_cl, bI_0, bI_1, forall_eq, forall_eq_apply_imp_iff, not_true_eq_false, not_false_eq_true, ne_eq, Classical.not_not, true_imp_iff, false_imp_iff, and_true, true_and, Int.reduceEq, Int.reduceLT, Int.reduceLE, Int.reduceNeg, implies_true, Int.toNat_natCast]
  rw [show ((o : Int) + 1).toNat = o + 1 by omega, r2 o (by omega), r2 (o + 1) (by omega)]
  simp only [iI_lit, iI_neg, iI_add, iI_sub, iI_mul, iI_nI, iI_ofNat, iI_lt, iI_le, iI_eq, iI_cl, bI_0, bI_1, forall_eq, forall_eq_apply_imp_iff, not_true_eq_false, not_false_eq_true, ne_eq, Classical.not_not, true_imp_iff, false_imp_iff, and_true, true_and, Int.reduceEq, Int.reduceLT, Int.reduceLE, Int.reduceNeg, implies_true]
  rw [show ((T.2.1 (o + 1) : Nat) : Int) - ((T.2.1 o : Nat) : Int) = ((nn T o : Nat) : Int) by unfold nn; omega]
  refine call_i (v := iI ((nn T o : Nat) : Int)) (fun Q q => ⟨iI_in (by omega) (by omega) (by omega), iI_in (by omega) (by omega) (by omega), q⟩) ?_
  rw [jmin_i (by omega) (by omega) (by omega) (by omega), show min ((nn T o : Nat) : Int) ((S : Nat) : Int) = ((nn T o : Nat) : Int) by omega]
  refine call_r (t_G_weighPieces (post := fun f => CA (fun p k => CO T o p k s) (nn T o) f) hK hT hR ho hs (by omega) (by omega) (fun fc' h => h)) (fun fc' hCA => ?_)
  simp (disch := omega) only [iI_lit, iI_neg, iI_add, iI_sub, iI_mul, iI_nI, iI_ofNat, iI_lt, iI_le, iI_eq, iI_cl, bI_0, bI_1, forall_eq, forall_eq_apply_imp_iff, not_true_eq_false, not_false_eq_true, ne_eq, Classical.not_not, true_imp_iff, false_imp_iff, and_true, true_and, Int.reduceEq, Int.reduceLT, Int.reduceLE, Int.reduceNeg, implies_true, jmin_i]
  rw [show min 24 (((nn T o : Nat) : Int) - 3 + 1) = ((min 24 (nn T o - 2) : Nat) : Int) by omega]
  refine lp_n (fun k z => z.1 = iI (max 0 (bi (fun p k => CO T o p k s) (nn T o) k)) ∧ z.2.1 = iI (lo (gS (fun p k => CO T o p k s) (nn T o)) k) ∧ z.2.2.1 = iI k) (min 24 (nn T o - 2)) ⟨0, by omega, rfl, rfl, rfl⟩ ?_
  rintro k ⟨x5, x6, x7, g2a, g1a⟩ back hk ⟨e1, e2, e3⟩ hback
  have e1 : x5 = _ := e1; have e2 : x6 = _ := e2; have e3 : x7 = _ := e3; subst e1; subst e2; subst e3
  have hli := lo_i (gS (fun p k => CO T o p k s) (nn T o)) k
  have hgb : ∀ i, i < nn T o → 0 ≤ gS (fun p k => CO T o p k s) (nn T o) i ∧ gS (fun p k => CO T o p k s) (nn T o) i ≤ 1073741824 := fun i hi => ⟨gg_0 hc (i + nn T o) 3 i (by omega) (by omega), gg_i _ (by omega)⟩
  have hl0 : 0 ≤ lo (gS (fun p k => CO T o p k s) (nn T o)) k := by
    rcases lo_at (gS (fun p k => CO T o p k s) (nn T o)) k with h | ⟨j, h3, h4⟩
    · omega
    · rw [h4]; exact (hgb j (by omega)).1
  simp (disch := omega) only [wp_G_find_L46, wp_G_find_J77, iI_lit, iI_neg, iI_add, iI_sub, iI_mul, iI_nI, iI_ofNat, iI_lt, iI_le, iI_eq, iI_cl, bI_0, bI_1, forall_eq, forall_eq_apply_imp_iff, not_true_eq_false, not_false_eq_true, ne_eq, Classical.not_not, true_imp_iff, false_imp_iff, and_true, true_and, Int.reduceEq, Int.reduceLT, Int.reduceLE, Int.reduceNeg, implies_true]
  refine ⟨fun z => ?_, fun z => ?_⟩
  · obtain rfl : k = min 24 (nn T o - 2) := by omega
    rw [b6, b7, show max 0 ((bA (fun p k => CO T o p k s) (nn T o) : Nat) : Int) = ((bA (fun p k => CO T o p k s) (nn T o) : Nat) : Int) by omega]
    refine ⟨fun _ u => (∀ q, bA (fun p k => CO T o p k s) (nn T o) < q → q < nn T o → u.2 q = iI (gg (fun p k => CO T o p k s) (nn T o) (bA (fun p k => CO T o p k s) (nn T o)) 1 q)) ∧ (∀ q, bA (fun p k => CO T o p k s) (nn T o) < q → q < nn T o → q ≤ bA (fun p k => CO T o p k s) (nn T o) + 24 → u.1 q = iI (gg (fun p k => CO T o p k s) (nn T o) (bA (fun p k => CO T o p k s) (nn T o)) 2 q)), t_G_weighFrom hc hCA (by omega) (by omega) hSn hSn (by omega) (by omega) b2 (fun f2' f1' q1 q2 => ⟨q1, q2⟩), ?_⟩
    rintro r f2' f1' ⟨q1, q2⟩
    refine ⟨fun u => u.1 = iI ((fnd T o s : Nat) : Int) ∧ ∀ j, j < fnd T o s → u.2 j = iI ((fndK T o s j : Nat) : Int), t_G_follow hc hCA (by omega) (by omega) hSn hSn hSn (by omega) (by omega) (by omega) (by omega) b2 b5 q1 q2 (fun fp' h => ⟨rfl, h⟩), ?_⟩
    rintro u0 u1 ⟨h2, h3⟩
    have h2 : u0 = _ := h2; subst h2
    have h3 : ∀ j, j < fnd T o s → u1 j = iI ((fndK T o s j : Nat) : Int) := h3
    refine ⟨fun u => ∀ j, j < fnd T o s → u.1 j = iI (pX T o (fndK T o s) (fnd T o s) j) ∧ u.2.1 j = iI (pY T o (fndK T o s) (fnd T o s) j) ∧ u.2.2.1 j = iI (ag (pX T o (fndK T o s) (fnd T o s)) (pY T o (fndK T o s) (fnd T o s)) (fnd T o s) j) ∧ u.2.2.2 j = iI (tu (pX T o (fndK T o s) (fnd T o s)) (pY T o (fndK T o s) (fnd T o s)) (fnd T o s) j), t_G_measure hK hT hR ho (by omega) (by omega) (fun j hj => ⟨h3 j hj, hfs.2.2 j hj⟩) (fun gx' gy' ga' gt'' h => h), ?_⟩
    intro gx' gy' ga' gt'' h4
    rw [iI_and18]
    exact g _ _ _ _ _ _ _ _ (fun j hj => ⟨h3 j hj, h4 j hj⟩)
  · refine ⟨fun r _ => r = iI (gS (fun p k => CO T o p k s) (nn T o) k), t_G_weighFrom hc hCA (by omega) (by omega) hSn hSn (by omega) (by omega) (by omega) (fun f2' f1' _ _ => rfl), ?_⟩
    rintro r f2' f1' rfl
    have hk2 := hgb k (by omega)
    have eB : bi (fun p k => CO T o p k s) (nn T o) (k + 1) = cI (gS (fun p k => CO T o p k s) (nn T o) k < lo (gS (fun p k => CO T o p k s) (nn T o)) k) (k : Int) (bi (fun p k => CO T o p k s) (nn T o) k) := rfl
    have eL : lo (gS (fun p k => CO T o p k s) (nn T o)) (k + 1) = min (lo (gS (fun p k => CO T o p k s) (nn T o)) k) (gS (fun p k => CO T o p k s) (nn T o) k) := rfl
    simp (disch := omega) only [iI_lit, iI_neg, iI_add, iI_sub, iI_mul, iI_nI, iI_ofNat, iI_lt, iI_le, iI_eq, iI_cl, bI_0, bI_1, forall_eq, forall_eq_apply_imp_iff, not_true_eq_false, not_false_eq_true, ne_eq, Classical.not_not, true_imp_iff, false_imp_iff, and_true, true_and, Int.reduceEq, Int.reduceLT, Int.reduceLE, Int.reduceNeg, implies_true]
    refine ⟨fun w => hback _ (by omega) ⟨?_, ?_, ?_⟩, fun w => hback _ (by omega) ⟨?_, ?_, ?_⟩⟩
    · rw [eB, cI_f (by omega)]
    · show iI _ = iI _; rw [eL]; congr 1; omega
    · show iI _ = iI _; congr 1
    · rw [eB, cI_t (by omega)]; show iI _ = iI _; congr 1
    · show iI _ = iI _; rw [eL]; congr 1; omega
    · show iI _ = iI _; congr 1
