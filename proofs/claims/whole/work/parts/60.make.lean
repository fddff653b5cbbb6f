-- the class makes its curves
theorem vP_0 (X Y : Nat → Int) (N : Nat) (sh e : Int) : vP X Y N sh e 0 = 0 := by unfold vP; rw [cs]
theorem vP_s (X Y : Nat → Int) (N : Nat) (sh e : Int) (j : Nat) : vP X Y N sh e (j + 1) = vP X Y N sh e j + vL X Y N sh e j := by unfold vL vP; rw [cs]
theorem t_C_make {N S : Nat} {X Y : Nat → Int} (hG : PG X Y N) (hS : N ≤ S ∧ S < 10000) {fa ft fx fy fe ffi tl fl tp fp hx hy : Nat → Int32} (ha : ∀ j, j < N → fa j = iI (ag X Y N j)) (ht : ∀ j, j < N → ft j = iI (tu X Y N j)) (hf : ∀ j, j < N → fx j = iI (X j) ∧ fy j = iI (Y j)) {sh e : Int} (hs : 0 ≤ sh ∧ sh ≤ 65) (he : 0 ≤ e ∧ e ≤ 64) {cc : Int32} {post : Int32 → (Int32 × (Nat → Int32) × (Nat → Int32) × (Nat → Int32) × (Nat → Int32) × (Nat → Int32) × (Nat → Int32) × (Nat → Int32) × (Nat → Int32)) → Prop}
    (g : ∀ fe' ffi' tl' fl' tp' fp' a b, VR X Y N sh e (vN X Y N sh e) ffi' fl' fp' → post (iI ((vN X Y N sh e : Nat) : Int)) (iI ((vN X Y N sh e : Nat) : Int), fe', ffi', tl', fl', tp', fp', a, b)) :
    wp_C_make S (S + 1) S S S S S S S 4 S 4 cc (iI N) fa fe ffi tl fl tp fp ft fx hx fy hy (iI sh) (iI e) post := by
  have hN := hG.1
  have hbg := bgn_lt X Y sh (show 1 ≤ N by omega)
  unfold wp_C_make
  refine call_i (fun Q q => t_C_firstSharp hG hS ha hs q) ?_
  simp (disch := omega) only [iI_lit, iI_neg, iI_add, iI_sub, iI_mul, iI_nI, iI_ofNat, iI_lt, iI_le, iI_eq, iI_cl, bI_0, bI_1, forall_eq, forall_eq_apply_imp_iff, not_true_eq_false, not_false_eq_true, ne_eq, Classical.not_not, true_imp_iff, false_imp_iff, and_true, true_and, Int.reduceEq, Int.reduceLT, Int.reduceLE, Int.reduceNeg, implies_true, Int.toNat_natCast]
  refine ⟨iI_in (by omega) (by omega) (by omega), ?_⟩
  refine lp_n (fun k z => z.1 = iI (((N - k : Nat) : Int) - 1) ∧ (∀ j, N - k ≤ j → j ≤ N → z.2.1 j = iI (gr (JJ X Y N sh e) N j)) ∧ (∀ j, N - k ≤ j → j < N → z.2.2.1 j = iI ((gm (JJ X Y N sh e) N j : Nat) : Int) ∧ z.2.2.2.1 j = iI (pl X Y N sh e j (gm (JJ X Y N sh e) N j)))) N ⟨0, by omega, iI_e (by omega), fun j h1 h2 => ?_, fun j h1 h2 => by omega⟩ ?_
  · obtain rfl : j = N := by omega
    show upd fe j (iI 0) j = _
    rw [upd_t, gr_N]
  rintro k ⟨x, fe1, tl1, tp1, a, b⟩ back hk ⟨h1, h2, h3⟩ hback
  have h1 : x = _ := h1; subst h1
  have h2 : ∀ j, N - k ≤ j → j ≤ N → fe1 j = iI (gr (JJ X Y N sh e) N j) := h2
  have h3 : ∀ j, N - k ≤ j → j < N → tl1 j = iI ((gm (JJ X Y N sh e) N j : Nat) : Int) ∧ tp1 j = iI (pl X Y N sh e j (gm (JJ X Y N sh e) N j)) := h3
  simp (disch := omega) only [wp_C_make_L30, iI_lit, iI_neg, iI_add, iI_sub, iI_mul, iI_nI, iI_ofNat, iI_lt, iI_le, iI_eq, iI_cl, bI_0, bI_1, forall_eq, forall_eq_apply_imp_iff, not_true_eq_false, not_false_eq_true, ne_eq, Classical.not_not, true_imp_iff, false_imp_iff, and_true, true_and, Int.reduceEq, Int.reduceLT, Int.reduceLE, Int.reduceNeg, implies_true]
  refine ⟨fun z => ?_, fun z => ?_⟩
  · have h3' : ∀ j, j < N → tl1 j = iI ((gm (JJ X Y N sh e) N j : Nat) : Int) ∧ tp1 j = iI (pl X Y N sh e j (gm (JJ X Y N sh e) N j)) := fun j hj => h3 j (by omega) hj
    refine lp_n (fun n z => z.1 = iI ((vP X Y N sh e n : Nat) : Int) ∧ z.2.1 = iI n ∧ (∀ i, i < n → vP X Y N sh e i < N) ∧ VR X Y N sh e n z.2.2.1 z.2.2.2.1 z.2.2.2.2) N ⟨0, by omega, iI_e (by rw [vP_0]; rfl), rfl, fun i hi => absurd hi (Nat.not_lt_zero i), fun i hi => absurd hi (Nat.not_lt_zero i)⟩ ?_
    rintro n ⟨x, c, ffi1, fl1, fp1⟩ back2 hn ⟨q1, q2, q3, q4⟩ hback2
    have q1 : x = _ := q1; have q2 : c = _ := q2; subst q1; subst q2
    have q4 : VR X Y N sh e n ffi1 fl1 fp1 := q4
    have hcb : n ≤ vP X Y N sh e n ∧ vP X Y N sh e n ≤ N := cs_b (by omega) q3
    simp (disch := omega) only [wp_C_make_L67, iI_lit, iI_neg, iI_add, iI_sub, iI_mul, iI_nI, iI_ofNat, iI_lt, iI_le, iI_eq, iI_cl, bI_0, bI_1, forall_eq, forall_eq_apply_imp_iff, not_true_eq_false, not_false_eq_true, ne_eq, Classical.not_not, true_imp_iff, false_imp_iff, and_true, true_and, Int.reduceEq, Int.reduceLT, Int.reduceLE, Int.reduceNeg, implies_true, Int.toNat_natCast]
    refine ⟨fun z2 => ?_, fun z2 => ?_⟩
    · have hn : vN X Y N sh e = n := nC_u (show N ≤ vP X Y N sh e n by omega) q3
      have g := g fe1 ffi1 tl1 fl1 tp1 fp1 a b
      rw [hn] at g
      exact g q4
    · have hlt : vP X Y N sh e n < N := by omega
      have h4 : tl1 (vP X Y N sh e n) = iI ((vL X Y N sh e n : Nat) : Int) ∧ tp1 (vP X Y N sh e n) = iI (vU X Y N sh e n) := h3' _ hlt
      have h5 : 1 ≤ vL X Y N sh e n ∧ vL X Y N sh e n ≤ 6 ∧ vP X Y N sh e n + vL X Y N sh e n ≤ N := gm_b hlt (by omega)
      refine call_i (fun Q q => t_G_beside (by omega) (by omega) q) ?_
      rw [mod_n (bgn X Y N sh) N (k' := bgn X Y N sh + vP X Y N sh e n) ((vP X Y N sh e n : Nat) : Int) 0 (by omega)]
      rw [h4.1, h4.2, jmax_i (by omega) (by omega) (by omega) (by omega)]
      simp (disch := omega) only [iI_lit, iI_neg, iI_add, iI_sub, iI_mul, iI_nI, iI_ofNat, iI_lt, iI_le, iI_eq, iI_cl, bI_0, bI_1, forall_eq, forall_eq_apply_imp_iff, not_true_eq_false, not_false_eq_true, ne_eq, Classical.not_not, true_imp_iff, false_imp_iff, and_true, true_and, Int.reduceEq, Int.reduceLT, Int.reduceLE, Int.reduceNeg, implies_true]
      refine ⟨iI_in (by omega) (by omega) (by omega), iI_in (by omega) (by omega) (by omega), iI_in (by omega) (by omega) (by omega), iI_in (by omega) (by omega) (by omega), iI_in (by omega) (by omega) (by omega), iI_in (by omega) (by omega) (by omega), ?_⟩
      refine hback2 _ (by omega) ⟨iI_e (by rw [vP_s]; omega), iI_e (by omega), fun i hi => ?_, VR_upd q4 rfl rfl rfl⟩
      by_cases ei : i = n
      · rw [ei]; exact hlt
      · exact q3 i (by omega)
  · obtain ⟨i, hi⟩ : ∃ i, i = N - k - 1 := ⟨_, rfl⟩
    rw [show ((N - k : Nat) : Int) - 1 = (i : Int) by omega]
    refine call_i (fun Q q => t_G_beside (by omega) (by omega) q) ?_
    rw [mod_n (bgn X Y N sh) N (k' := bgn X Y N sh + i) (i : Int) 0 (by omega)]
    refine ⟨fun u => u.1 = upd fe1 i (iI (gr (JJ X Y N sh e) N i)) ∧ (∀ j, j ≠ i → u.2.2.2.1 j = tl1 j ∧ u.2.2.2.2 j = tp1 j) ∧ u.2.2.2.1 i = iI ((gm (JJ X Y N sh e) N i : Nat) : Int) ∧ u.2.2.2.2 i = iI (pl X Y N sh e i (gm (JJ X Y N sh e) N i)), t_C_choose hG hS ha ht hf (by omega) hs he (fun j h4 h5 => h2 j (by omega) h5) (fun a b tl' tp' h4 h5 h6 => ⟨rfl, h4, h5, h6⟩), ?_⟩
    rintro u0 u1 u2 u3 u4 ⟨g1, g2, g3, g4⟩
    have g1 : u0 = _ := g1
    have g2 : ∀ j, j ≠ i → u3 j = tl1 j ∧ u4 j = tp1 j := g2
    refine hback _ (by omega) ⟨iI_e (by omega), fun j j1 j2 => ?_, fun j j1 j2 => ?_⟩
    · show u0 j = _
      by_cases ej : j = i
      · subst ej; rw [g1, upd_t]
      · rw [g1, upd_f _ _ ej]; exact h2 j (by omega) j2
    · show u3 j = _ ∧ u4 j = _
      by_cases ej : j = i
      · subst ej; exact ⟨g3, g4⟩
      · rw [(g2 j ej).1, (g2 j ej).2]; exact h3 j (by omega) j2
