-- the reference makes its curves
theorem t_M_cvF {N : Nat} {X Y : Nat → Int} {of hp code hc : Int32} {fk ff fs fx fy px py fg fj ffi fm ffs : Nat → Int32} (hG : PG X Y N) (hX : CRX N X of fk ff fs fx) (hY : CRY N Y of fk ff fs fy) {sh e : Int} (hs : 0 ≤ sh ∧ sh ≤ 65)
    (hg : ∀ j, j ≤ N → fg j = iI (gr (JJ X Y N sh e) N j)) (hj : ∀ i m, i < N → 2 ≤ m → m ≤ 6 → i + m ≤ N → fj (7 * i + m) = iI (JJ X Y N sh e i m))
    {post : Int32 → (Int32 × Int32 × Int32 × Int32 × Int32 × (Nat → Int32) × (Nat → Int32) × (Nat → Int32) × (Nat → Int32) × (Nat → Int32) × (Nat → Int32) × (Nat → Int32)) → Prop}
    (g : ∀ ffi' fm' ffs', VR X Y N sh e (vN X Y N sh e) ffi' fm' ffs' → post (iI ((vN X Y N sh e : Nat) : Int)) (code, iI 1, iI ((vN X Y N sh e : Nat) : Int), iI sh, iI e, fg, ffi', fm', ffs', fj, px, py)) :
    lpW (fun b z => wp_M_curves_L249 520 512 512 512 900 900 3600 3600 512 3600 4 4 hp of (iI N) fk ff fs fx fy code hc (iI sh) (iI e) fg fj px py (iI ((bgn X Y N sh : Nat) : Int)) post b z.1 z.2.1 z.2.2.1 z.2.2.2.1 z.2.2.2.2) (iI 0, iI 0, ffi, fm, ffs) := by
  have hN := hG.1
  have hbg := bgn_lt X Y sh (show 1 ≤ N by omega)
  refine lp_n (fun n z => z.1 = iI ((vP X Y N sh e n : Nat) : Int) ∧ z.2.1 = iI n ∧ (∀ i, i < n → vP X Y N sh e i < N) ∧ VR X Y N sh e n z.2.2.1 z.2.2.2.1 z.2.2.2.2) N ⟨0, by omega, iI_e (by rw [vP_0]; rfl), rfl, fun i hi => absurd hi (Nat.not_lt_zero i), fun i hi => absurd hi (Nat.not_lt_zero i)⟩ ?_
  rintro n ⟨x, c, ffi1, fm1, ffs1⟩ back2 hn ⟨q1, q2, q3, q4⟩ hback2
  have q1 : x = _ := q1; have q2 : c = _ := q2; subst q1; subst q2
  have q4 : VR X Y N sh e n ffi1 fm1 ffs1 := q4
  have hcb : n ≤ vP X Y N sh e n ∧ vP X Y N sh e n ≤ N := cs_b (by omega) q3
  simp (disch := omega) only [wp_M_curves_L249, iI_lit, iI_neg, iI_add, iI_sub, iI_mul, iI_nI, iI_ofNat, iI_lt, iI_le, iI_eq, iI_cl, bI_0, bI_1, forall_eq, forall_eq_apply_imp_iff, not_true_eq_false, not_false_eq_true, ne_eq, Classical.not_not, true_imp_iff, false_imp_iff, and_true, true_and, Int.reduceEq, Int.reduceLT, Int.reduceLE, Int.reduceNeg, implies_true]
  refine ⟨fun z2 => ?_, fun z2 => ?_⟩
  · have hn : vN X Y N sh e = n := nC_u (show N ≤ vP X Y N sh e n by omega) q3
    have g := g ffi1 fm1 ffs1
    rw [hn] at g
    exact g q4
  have hlt : vP X Y N sh e n < N := by omega
  have hL : 1 ≤ vL X Y N sh e n ∧ vL X Y N sh e n ≤ 6 ∧ vP X Y N sh e n + vL X Y N sh e n ≤ N := gm_b hlt (by omega)
  have hLu : ∀ m, GL (JJ X Y N sh e) N (vP X Y N sh e n) m → m = vL X Y N sh e n := fun m h => (gm_u h hlt (by omega)).symm
  obtain ⟨m0, ma, mb⟩ := gr_at (J := JJ X Y N sh e) hlt (by omega)
  have hP := vP_s X Y N sh e n
  have hF : vF X Y N sh e n = (bgn X Y N sh + vP X Y N sh e n) % N := rfl
  have hU : vU X Y N sh e n = cI (vL X Y N sh e n = 1) (sgl X Y N sh (bgn X Y N sh + vP X Y N sh e n)) (JJ X Y N sh e (vP X Y N sh e n) (vL X Y N sh e n)) := rfl
  have hback2 : ∀ a b c d f : Int32, a = iI ((vP X Y N sh e n : Nat) + (vL X Y N sh e n : Nat) : Int) → b = iI ((n : Int) + 1) → c = iI ((vF X Y N sh e n : Nat) : Int) → d = iI ((vL X Y N sh e n : Nat) : Int) → f = iI (vU X Y N sh e n) → back2 (a, b, upd ffi1 n c, upd fm1 n d, upd ffs1 n f) := by
    intro a b c d f h1 h2 h3 h4 h5
    refine hback2 _ (by omega) ⟨?_, ?_, fun i hi => ?_, VR_upd q4 h3 h4 h5⟩
    · show a = _; rw [h1, hP]; exact iI_e (by omega)
    · show b = _; rw [h2]; exact iI_e (by omega)
    · by_cases ei : i = n
      · rw [ei]; exact hlt
      · exact q3 i (by omega)
  have hJb : ∀ m, 0 ≤ JJ X Y N sh e (vP X Y N sh e n) m ∧ JJ X Y N sh e (vP X Y N sh e n) m ≤ 64 := fun m => oJO_b X Y N sh e _ m
  have hFlt : vF X Y N sh e n < N := Nat.mod_lt _ (by omega)
  have e2 : (((bgn X Y N sh : Nat) : Int) + ((vP X Y N sh e n : Nat) : Int)).tmod (N : Int) = ((vF X Y N sh e n : Nat) : Int) := by
    rw [Int.tmod_eq_emod_of_nonneg (by omega), hF]; push_cast; rfl
  have hsg : sgl X Y N sh (vF X Y N sh e n) = sgl X Y N sh (bgn X Y N sh + vP X Y N sh e n) := by rw [hF]; exact sgl_m hG sh _
  have hab := ag_b hG (vF X Y N sh e n)
  have ha8 := td8 hab
  rw [← hsg] at hU
  clear hsg hF q3 q4
  generalize vP X Y N sh e n = i at *
  generalize vF X Y N sh e n = f at *
  generalize vU X Y N sh e n = u at *
  generalize vL X Y N sh e n = l at *
  have fin : wp_M_curves_J334 520 512 512 512 900 900 3600 3600 512 3600 4 4 hp of (iI N) fk ff fs fx fy code hc (iI n) (iI sh) (iI e) fg ffi1 fm1 ffs1 fj px py (iI ((bgn X Y N sh : Nat) : Int)) (iI i) (iI l) back2 post := by
    simp (disch := omega) only [wp_M_curves_J334, wp_M_curves_J422, iI_lit, iI_neg, iI_add, iI_sub, iI_mul, iI_nI, iI_ofNat, iI_lt, iI_le, iI_eq, iI_cl, bI_0, bI_1, forall_eq, forall_eq_apply_imp_iff, not_true_eq_false, not_false_eq_true, ne_eq, Classical.not_not, true_imp_iff, false_imp_iff, and_true, true_and, Int.reduceEq, Int.reduceLT, Int.reduceLE, Int.reduceNeg, implies_true, iI_rem, e2, Int.toNat_natCast]
    have hv : vp_in (iI (n : Int)) 512 := iI_in (by omega) (by omega) (by omega)
    refine ⟨by omega, hv, hv, fun w => ?_, fun w => ?_⟩
    · have hl1 : l = 1 := by omega
      rw [cI_t hl1] at hU
      refine call_i (fun Q q => t_M_isSharp hG hX hY (by omega) hs q) ?_
      simp (disch := omega) only [iI_lit, iI_neg, iI_add, iI_sub, iI_mul, iI_nI, iI_ofNat, iI_lt, iI_le, iI_eq, iI_cl, bI_0, bI_1, forall_eq, forall_eq_apply_imp_iff, not_true_eq_false, not_false_eq_true, ne_eq, Classical.not_not, true_imp_iff, false_imp_iff, and_true, true_and, Int.reduceEq, Int.reduceLT, Int.reduceLE, Int.reduceNeg, implies_true]
      refine ⟨fun w2 => ?_, fun w2 => ⟨hv, ?_⟩⟩
      · refine call_i (fun Q q => t_M_angleAt hG hX hY (by omega) q) ?_
        simp (disch := omega) only [iI_lit, iI_neg, iI_add, iI_sub, iI_mul, iI_nI, iI_ofNat, iI_lt, iI_le, iI_eq, iI_cl, bI_0, bI_1, forall_eq, forall_eq_apply_imp_iff, not_true_eq_false, not_false_eq_true, ne_eq, Classical.not_not, true_imp_iff, false_imp_iff, and_true, true_and, Int.reduceEq, Int.reduceLT, Int.reduceLE, Int.reduceNeg, implies_true, iI_div]
        refine ⟨hv, hback2 _ _ _ _ _ (iI_e (by omega)) (iI_e (by omega)) rfl rfl ?_⟩
        rw [hU]; unfold sgl; rw [cI_f w2]
      · refine hback2 _ _ _ _ _ (iI_e (by omega)) (iI_e (by omega)) rfl rfl ?_
        rw [hU]; unfold sgl; rw [cI_t w2]
    · rw [show (7 * (i : Int) + (l : Int)).toNat = 7 * i + l by omega, hj i l hlt (by omega) (by omega) (by omega)]
      refine ⟨iI_in (by omega) (by omega) (by omega), hv, hback2 _ _ _ _ _ (iI_e (by omega)) (iI_e (by omega)) rfl rfl ?_⟩
      rw [hU, cI_f (by omega)]
  obtain ⟨M, hM⟩ : ∃ M : Nat, M = min 6 (N - i) := ⟨_, rfl⟩
  have main : wp_M_curves_J282 520 512 512 512 900 900 3600 3600 512 3600 4 4 hp of (iI N) fk ff fs fx fy code hc (iI n) (iI sh) (iI e) fg ffi1 fm1 ffs1 fj px py (iI ((bgn X Y N sh : Nat) : Int)) (iI i) (iI M) back2 post := by
    unfold wp_M_curves_J282
    refine lp_n (fun k z => z = iI ((M - k : Nat) : Int) ∧ k < M ∧ ∀ m, M - k < m → oAD (JJ X Y N sh e) N i m → gr (JJ X Y N sh e) N i ≠ gr (JJ X Y N sh e) N (i + m) + 1) M ⟨0, by omega, rfl, by omega, fun m hm ha => by have := ha.2.1; have := ha.2.2.1; omega⟩ ?_
    rintro k z back3 hk ⟨e1, e3, e4⟩ hback3
    have e1 : z = _ := e1; subst e1
    obtain ⟨m, hm⟩ : ∃ m, m = M - k := ⟨_, rfl⟩
    rw [← hm] at e4 ⊢
    have next : m ≠ 1 → (oAD (JJ X Y N sh e) N i m → gr (JJ X Y N sh e) N i ≠ gr (JJ X Y N sh e) N (i + m) + 1) → back3 (iI ((m : Int) + -1)) := by
      intro h1 h2
      refine hback3 _ (by omega) ⟨iI_e (by omega), by omega, fun m' h3 h4 => ?_⟩
      by_cases em : m' = m
      · subst em; exact h2 h4
      · exact e4 m' (by omega) h4
    simp (disch := omega) only [wp_M_curves_L284, wp_M_curves_J328, iI_lit, iI_neg, iI_add, iI_sub, iI_mul, iI_nI, iI_ofNat, iI_lt, iI_le, iI_eq, iI_cl, bI_0, bI_1, forall_eq, forall_eq_apply_imp_iff, not_true_eq_false, not_false_eq_true, ne_eq, Classical.not_not, true_imp_iff, false_imp_iff, and_true, true_and, Int.reduceEq, Int.reduceLT, Int.reduceLE, Int.reduceNeg, implies_true]
    refine ⟨fun w => ?_, fun w => ?_⟩
    · have hm1 : m = 1 := by omega
      have hm0 : m0 = 1 := by
        rcases Nat.lt_or_ge m m0 with h | h
        · exact absurd mb (e4 m0 h ma)
        · have := ma.1; omega
      have : m = l := hLu m ⟨by rw [hm1, ← hm0]; exact ma, by rw [hm1, ← hm0]; exact mb, e4⟩
      rw [this]; exact fin
    · have h1 := hJb m
      rw [show (7 * (i : Int) + (m : Int)).toNat = 7 * i + m by omega, hj i m hlt (by omega) (by omega) (by omega)]
      refine ⟨iI_in (by omega) (by omega) (by omega), ?_⟩
      simp (disch := omega) only [iI_lit, iI_neg, iI_add, iI_sub, iI_mul, iI_nI, iI_ofNat, iI_lt, iI_le, iI_eq, iI_cl, bI_0, bI_1, forall_eq, forall_eq_apply_imp_iff, not_true_eq_false, not_false_eq_true, ne_eq, Classical.not_not, true_imp_iff, false_imp_iff, and_true, true_and, Int.reduceEq, Int.reduceLT, Int.reduceLE, Int.reduceNeg, implies_true]
      refine ⟨fun w2 => next (by omega) (fun h => ?_), fun w2 => ⟨iI_in (by omega) (by omega) (by omega), iI_in (by omega) (by omega) (by omega), ?_⟩⟩
      · rcases h.2.2.2 with h | h
        · omega
        · exact absurd w2 h
      · have b1 := gr_b (JJ X Y N sh e) (show i + m ≤ N by omega)
        have b2 := gr_b (JJ X Y N sh e) (show i ≤ N by omega)
        rw [show ((i : Int) + (m : Int)).toNat = i + m by omega, Int.toNat_natCast, hg _ (show i + m ≤ N by omega), hg _ (show i ≤ N by omega)]
        simp (disch := omega) only [iI_lit, iI_neg, iI_add, iI_sub, iI_mul, iI_nI, iI_ofNat, iI_lt, iI_le, iI_eq, iI_cl, bI_0, bI_1, forall_eq, forall_eq_apply_imp_iff, not_true_eq_false, not_false_eq_true, ne_eq, Classical.not_not, true_imp_iff, false_imp_iff, and_true, true_and, Int.reduceEq, Int.reduceLT, Int.reduceLE, Int.reduceNeg, implies_true]
        refine ⟨fun w3 => ?_, fun w3 => next (by omega) (fun _ h => by omega)⟩
        have : m = l := hLu m ⟨⟨by omega, by omega, by omega, Or.inr w2⟩, by omega, e4⟩
        rw [this]; exact fin
  refine ⟨fun w => ?_, fun w => ?_⟩
  · rwa [show (M : Int) = 6 by omega] at main
  · rwa [show (M : Int) = (N : Int) - i by omega] at main
theorem lo_ext {f : Nat → Int} {a b : Nat} (hab : a ≤ b) (h : ∀ j, a ≤ j → j < b → 1073741824 ≤ f j) : lo f b = lo f a := by
  induction b with
  | zero => rw [show a = 0 by omega]
  | succ b ih =>
    by_cases e : a = b + 1
    · rw [e]
    · simp only [lo]
      rw [ih (by omega) (fun j h1 h2 => h j h1 (by omega))]
      have := lo_i f a; have := h b (by omega) (by omega); omega
theorem lo_nn {f : Nat → Int} {m : Nat} (h : ∀ j, 0 ≤ f j) : 0 ≤ lo f m := by
  rcases lo_at f m with h1 | ⟨j, _, h2⟩
  · omega
  · rw [h2]; exact h j
theorem gtm_nn (J : Nat → Nat → Int) (N i j : Nat) : 0 ≤ gtm J N i j := by
  unfold gtm
  refine cI_s (P := fun z => 0 ≤ z) (fun w => ?_) (fun _ => by omega)
  have := gr_b J (show i + j + 1 ≤ N from w.2.2.1)
  omega
theorem gtm_n {J : Nat → Nat → Int} {N i j : Nat} (h : ¬ oAD J N i (j + 1)) : gtm J N i j = 1073741824 := cI_f h
theorem gtm_y {J : Nat → Nat → Int} {N i j : Nat} (h : oAD J N i (j + 1)) : gtm J N i j = gr J N (i + j + 1) + 1 := cI_t h
theorem t_M_cvG {N : Nat} {X Y : Nat → Int} {of hp code hc cc : Int32} {fk ff fs fx fy px py fg fj ffi fm ffs : Nat → Int32} (hG : PG X Y N) (hX : CRX N X of fk ff fs fx) (hY : CRY N Y of fk ff fs fy) {sh e : Int} (hs : 0 ≤ sh ∧ sh ≤ 65) (he : 0 ≤ e ∧ e ≤ 64)
    {post : Int32 → (Int32 × Int32 × Int32 × Int32 × Int32 × (Nat → Int32) × (Nat → Int32) × (Nat → Int32) × (Nat → Int32) × (Nat → Int32) × (Nat → Int32) × (Nat → Int32)) → Prop}
    (g : ∀ fg' ffi' fm' ffs' fj' px' py', VR X Y N sh e (vN X Y N sh e) ffi' fm' ffs' → post (iI ((vN X Y N sh e : Nat) : Int)) (code, iI 1, iI ((vN X Y N sh e : Nat) : Int), iI sh, iI e, fg', ffi', fm', ffs', fj', px', py')) :
    wp_M_curves_J92 520 512 512 512 900 900 3600 3600 512 3600 4 4 hp of (iI N) fk ff fs fx fy code hc cc (iI sh) (iI e) fg ffi fm ffs fj px py (iI ((bgn X Y N sh : Nat) : Int)) post := by
  have hN := hG.1
  have hbg := bgn_lt X Y sh (show 1 ≤ N by omega)
  unfold wp_M_curves_J92
  simp (disch := omega) only [iI_lit, iI_neg, iI_add, iI_sub, iI_mul, iI_nI, iI_ofNat, iI_lt, iI_le, iI_eq, iI_cl, bI_0, bI_1, forall_eq, forall_eq_apply_imp_iff, not_true_eq_false, not_false_eq_true, ne_eq, Classical.not_not, true_imp_iff, false_imp_iff, and_true, true_and, Int.reduceEq, Int.reduceLT, Int.reduceLE, Int.reduceNeg, implies_true, Int.toNat_natCast]
  refine ⟨iI_in (by omega) (by omega) (by omega), ?_⟩
  refine lp_n (fun k z => z.1 = iI (((N - k : Nat) : Int) - 1) ∧ (∀ j, N - k ≤ j → j ≤ N → z.2.1 j = iI (gr (JJ X Y N sh e) N j)) ∧ (∀ j m, N - k ≤ j → j < N → 2 ≤ m → m ≤ 6 → j + m ≤ N → z.2.2.1 (7 * j + m) = iI (JJ X Y N sh e j m))) N ⟨0, by omega, iI_e (by omega), fun j h1 h2 => ?_, fun j m h1 h2 => by omega⟩ ?_
  · obtain rfl : j = N := by omega
    show upd fg j (iI 0) j = _
    rw [upd_t, gr_N]
  rintro k ⟨x, fg1, fj1, px1, py1⟩ back hk ⟨h1, h2, h3⟩ hback
  have h1 : x = _ := h1; subst h1
  have h2 : ∀ j, N - k ≤ j → j ≤ N → fg1 j = iI (gr (JJ X Y N sh e) N j) := h2
  have h3 : ∀ j m, N - k ≤ j → j < N → 2 ≤ m → m ≤ 6 → j + m ≤ N → fj1 (7 * j + m) = iI (JJ X Y N sh e j m) := h3
  simp (disch := omega) only [wp_M_curves_L111, iI_lit, iI_neg, iI_add, iI_sub, iI_mul, iI_nI, iI_ofNat, iI_lt, iI_le, iI_eq, iI_cl, bI_0, bI_1, forall_eq, forall_eq_apply_imp_iff, not_true_eq_false, not_false_eq_true, ne_eq, Classical.not_not, true_imp_iff, false_imp_iff, and_true, true_and, Int.reduceEq, Int.reduceLT, Int.reduceLE, Int.reduceNeg, implies_true]
  refine ⟨fun z => ?_, fun z => ?_⟩
  · exact t_M_cvF hG hX hY hs (fun j hj => h2 j (by omega) hj) (fun i m hi h4 h5 h6 => h3 i m (by omega) hi h4 h5 h6) (fun a b c h => g _ _ _ _ _ _ _ h)
  obtain ⟨i, hi⟩ : ∃ i, i = N - k - 1 := ⟨_, rfl⟩
  rw [show ((N - k : Nat) : Int) - 1 = (i : Int) by omega]
  have b1 := gr_b (JJ X Y N sh e) (show i + 1 ≤ N by omega)
  rw [show ((i : Int) + 1).toNat = i + 1 by omega, Int.toNat_natCast, h2 (i + 1) (by omega) (by omega)]
  refine ⟨iI_in (by omega) (by omega) (by omega), iI_in (by omega) (by omega) (by omega), ?_⟩
  simp only [iI_lit, iI_neg, iI_add, iI_sub, iI_mul, iI_nI, iI_ofNat, iI_lt, iI_le, iI_eq, iI_cl, bI_0, bI_1, forall_eq, forall_eq_apply_imp_iff, not_true_eq_false, not_false_eq_true, ne_eq, Classical.not_not, true_imp_iff, false_imp_iff, and_true, true_and, Int.reduceEq, Int.reduceLT, Int.reduceLE, Int.reduceNeg, implies_true]
  have hlo1 : lo (gtm (JJ X Y N sh e) N i) 1 = gr (JJ X Y N sh e) N (i + 1) + 1 := by
    simp only [lo]
    rw [gtm_y (j := 0) ⟨by omega, by omega, by omega, Or.inl rfl⟩, Nat.add_zero]
    omega
  refine lp_n (fun d z => z.1 = iI ((d + 2 : Nat) : Int) ∧ (∀ j, i < j → j ≤ N → z.2.1 j = iI (gr (JJ X Y N sh e) N j)) ∧ z.2.1 i = iI (lo (gtm (JJ X Y N sh e) N i) (d + 1)) ∧ (∀ j m, i < j → j < N → 2 ≤ m → m ≤ 6 → j + m ≤ N → z.2.2.1 (7 * j + m) = iI (JJ X Y N sh e j m)) ∧ (∀ m, 2 ≤ m → m < d + 2 → i + m ≤ N → z.2.2.1 (7 * i + m) = iI (JJ X Y N sh e i m))) 5 ⟨0, by omega, rfl, fun j j1 j2 => ?_, ?_, fun j m j1 j2 j3 j4 j5 => h3 j m (by omega) j2 j3 j4 j5, fun m m1 m2 => by omega⟩ ?_
  · show upd fg1 i _ j = _
    rw [upd_f _ _ (by omega)]; exact h2 j (by omega) j2
  · show upd fg1 i _ i = _
    rw [upd_t, hlo1]
  rintro d ⟨x, fg2, fj2, px2, py2⟩ back2 hd ⟨p1, p2, p3, p4, p5⟩ hback2
  have p1 : x = _ := p1; subst p1
  have p2 : ∀ j, i < j → j ≤ N → fg2 j = iI (gr (JJ X Y N sh e) N j) := p2
  have p3 : fg2 i = iI (lo (gtm (JJ X Y N sh e) N i) (d + 1)) := p3
  have p4 : ∀ j m, i < j → j < N → 2 ≤ m → m ≤ 6 → j + m ≤ N → fj2 (7 * j + m) = iI (JJ X Y N sh e j m) := p4
  have p5 : ∀ m, 2 ≤ m → m < d + 2 → i + m ≤ N → fj2 (7 * i + m) = iI (JJ X Y N sh e i m) := p5
  simp (disch := omega) only [wp_M_curves_L137, wp_M_curves_J235, wp_M_curves_J229, iI_lit, iI_neg, iI_add, iI_sub, iI_mul, iI_nI, iI_ofNat, iI_lt, iI_le, iI_eq, iI_cl, bI_0, bI_1, forall_eq, forall_eq_apply_imp_iff, not_true_eq_false, not_false_eq_true, ne_eq, Classical.not_not, true_imp_iff, false_imp_iff, and_true, true_and, Int.reduceEq, Int.reduceLT, Int.reduceLE, Int.reduceNeg, implies_true]
  have done : 7 ≤ d + 2 ∨ N < i + (d + 2) → back (iI ((i : Int) + -1), fg2, fj2, px2, py2) := by
    intro w
    refine hback _ (by omega) ⟨iI_e (by omega), fun j j1 j2 => ?_, fun j m j1 j2 m1 m2 m3 => ?_⟩
    · show fg2 j = _
      by_cases ej : j = i
      · rw [ej, p3, gr_eq _ (show i < N by omega)]
        congr 1
        refine (lo_ext (by omega) (fun q q1 q2 => ?_)).symm
        rw [gtm_n (fun h => by have := h.2.2.1; omega)]; omega
      · exact p2 j (by omega) j2
    · show fj2 _ = _
      by_cases ej : j = i
      · rw [ej]; exact p5 m m1 (by omega) (by omega)
      · exact p4 j m (by omega) j2 m1 m2 m3
  refine ⟨fun w => done (Or.inl (by omega)), fun w => ⟨fun w2 => done (Or.inr (by omega)), fun w2 => ?_⟩⟩
  rw [show ((bgn X Y N sh : Nat) : Int) + (i : Int) = ((bgn X Y N sh + i : Nat) : Int) by omega]
  refine ⟨fun r _ => r = iI (JJ X Y N sh e i (d + 2)), t_M_joined hG hX hY (by omega) (by omega) hs he (fun _ _ => rfl), ?_⟩
  rintro r u0 u1 hr
  have hr : r = _ := hr; subst hr
  have hJb : 0 ≤ JJ X Y N sh e i (d + 2) ∧ JJ X Y N sh e i (d + 2) ≤ 64 := oJO_b X Y N sh e _ _
  rw [show (7 * (i : Int) + ((d + 2 : Nat) : Int)).toNat = 7 * i + (d + 2) by omega]
  refine ⟨iI_in (by omega) (by omega) (by omega), ?_⟩
  have hlb := lo_i (gtm (JJ X Y N sh e) N i) (d + 1)
  have hln := lo_nn (f := gtm (JJ X Y N sh e) N i) (m := d + 1) (gtm_nn _ N i)
  have hgb := gr_b (JJ X Y N sh e) (show i + (d + 2) ≤ N by omega)
  have hls : lo (gtm (JJ X Y N sh e) N i) (d + 1 + 1) = min (lo (gtm (JJ X Y N sh e) N i) (d + 1)) (gtm (JJ X Y N sh e) N i (d + 1)) := rfl
  have go : ∀ fg3, (∀ j, j ≠ i → fg3 j = fg2 j) → fg3 i = iI (lo (gtm (JJ X Y N sh e) N i) (d + 1 + 1)) → back2 (iI (((d + 2 : Nat) : Int) + 1), fg3, upd fj2 (7 * i + (d + 2)) (iI (JJ X Y N sh e i (d + 2))), u0, u1) := by
    intro fg3 v1 v2
    refine hback2 _ (by omega) ⟨iI_e (by omega), fun j j1 j2 => ?_, v2, fun j m j1 j2 m1 m2 m3 => ?_, fun m m1 m2 m3 => ?_⟩
    · show fg3 j = _
      rw [v1 j (by omega)]; exact p2 j j1 j2
    · show upd fj2 _ _ _ = _
      rw [upd_f _ _ (by omega)]; exact p4 j m j1 j2 m1 m2 m3
    · show upd fj2 _ _ _ = _
      by_cases em : m = d + 2
      · subst em; rw [upd_t]
      · rw [upd_f _ _ (by omega)]; exact p5 m m1 (by omega) m3
  simp (disch := omega) only [iI_lit, iI_neg, iI_add, iI_sub, iI_mul, iI_nI, iI_ofNat, iI_lt, iI_le, iI_eq, iI_cl, bI_0, bI_1, forall_eq, forall_eq_apply_imp_iff, not_true_eq_false, not_false_eq_true, ne_eq, Classical.not_not, true_imp_iff, false_imp_iff, and_true, true_and, Int.reduceEq, Int.reduceLT, Int.reduceLE, Int.reduceNeg, implies_true]
  refine ⟨fun w3 => go fg2 (fun _ _ => rfl) ?_, fun w3 => ?_⟩
  · rw [p3, hls, gtm_n (fun h => ?_)]
    · congr 1; omega
    · rcases h.2.2.2 with h | h
      · omega
      · exact h (by show JJ X Y N sh e i (d + 2) = 0; omega)
  · have hy : gtm (JJ X Y N sh e) N i (d + 1) = gr (JJ X Y N sh e) N (i + (d + 2)) + 1 := gtm_y ⟨by omega, by omega, by omega, Or.inr (by show JJ X Y N sh e i (d + 2) ≠ 0; omega)⟩
    rw [show ((i : Int) + ((d + 2 : Nat) : Int)).toNat = i + (d + 2) by omega, Int.toNat_natCast, p3, p2 (i + (d + 2)) (by omega) (by omega)]
    have v1 : vp_in (iI ((i : Int) + ((d + 2 : Nat) : Int))) 520 := iI_in (by omega) (by omega) (by omega)
    have v2 : vp_in (iI (i : Int)) 520 := iI_in (by omega) (by omega) (by omega)
    simp (disch := omega) only [iI_lit, iI_neg, iI_add, iI_sub, iI_mul, iI_nI, iI_ofNat, iI_lt, iI_le, iI_eq, iI_cl, bI_0, bI_1, forall_eq, forall_eq_apply_imp_iff, not_true_eq_false, not_false_eq_true, ne_eq, Classical.not_not, true_imp_iff, false_imp_iff, and_true, true_and, Int.reduceEq, Int.reduceLT, Int.reduceLE, Int.reduceNeg, implies_true]
    refine ⟨v1, v2, fun w4 => go fg2 (fun _ _ => rfl) ?_, fun w4 => ⟨v1, v2, go _ (fun j hj => upd_f _ _ hj) ?_⟩⟩
    · rw [p3, hls, hy]; congr 1; omega
    · rw [upd_t, hls, hy]; congr 1; omega
theorem t_M_cvL {N : Nat} {X Y : Nat → Int} {of hp code hc cc : Int32} {fk ff fs fx fy px py fg fj ffi fm ffs : Nat → Int32} (hG : PG X Y N) (hX : CRX N X of fk ff fs fx) (hY : CRY N Y of fk ff fs fy) {sh e : Int} (hs : 0 ≤ sh ∧ sh ≤ 65) (he : 0 ≤ e ∧ e ≤ 64)
    {post : Int32 → (Int32 × Int32 × Int32 × Int32 × Int32 × (Nat → Int32) × (Nat → Int32) × (Nat → Int32) × (Nat → Int32) × (Nat → Int32) × (Nat → Int32) × (Nat → Int32)) → Prop}
    (g : ∀ fg' ffi' fm' ffs' fj' px' py', VR X Y N sh e (vN X Y N sh e) ffi' fm' ffs' → post (iI ((vN X Y N sh e : Nat) : Int)) (code, iI 1, iI ((vN X Y N sh e : Nat) : Int), iI sh, iI e, fg', ffi', fm', ffs', fj', px', py')) :
    lpW (fun b z => wp_M_curves_L57 520 512 512 512 900 900 3600 3600 512 3600 4 4 hp of (iI N) fk ff fs fx fy code hc cc (iI sh) (iI e) fg ffi fm ffs fj px py post b z) (iI 0) := by
  have hN := hG.1
  have main := t_M_cvG (hp := hp) (code := code) (hc := hc) (cc := cc) (fg := fg) (ffi := ffi) (fm := fm) (ffs := ffs) (fj := fj) (px := px) (py := py) hG hX hY hs he g
  refine lp_n (fun k z => z = iI k ∧ ∀ j, j < k → ag X Y N j < sh) N ⟨0, by omega, rfl, fun j hj => absurd hj (Nat.not_lt_zero j)⟩ ?_
  rintro k z back hk ⟨h1, h2⟩ hback
  have h1 : z = _ := h1; subst h1
  simp (disch := omega) only [wp_M_curves_L57, wp_M_curves_J79, iI_lit, iI_neg, iI_add, iI_sub, iI_mul, iI_nI, iI_ofNat, iI_lt, iI_le, iI_eq, iI_cl, bI_0, bI_1, forall_eq, forall_eq_apply_imp_iff, not_true_eq_false, not_false_eq_true, ne_eq, Classical.not_not, true_imp_iff, false_imp_iff, and_true, true_and, Int.reduceEq, Int.reduceLT, Int.reduceLE, Int.reduceNeg, implies_true]
  refine ⟨fun z => ⟨fun w => absurd (show (k : Int) = N by omega) w, fun w => ?_⟩, fun z => ?_⟩
  · rw [bgn_none (fun j hj => h2 j (by omega))] at main
    exact main
  · refine call_i (fun Q q => t_M_isSharp hG hX hY (by omega) hs q) ?_
    simp (disch := omega) only [iI_lit, iI_neg, iI_add, iI_sub, iI_mul, iI_nI, iI_ofNat, iI_lt, iI_le, iI_eq, iI_cl, bI_0, bI_1, forall_eq, forall_eq_apply_imp_iff, not_true_eq_false, not_false_eq_true, ne_eq, Classical.not_not, true_imp_iff, false_imp_iff, and_true, true_and, Int.reduceEq, Int.reduceLT, Int.reduceLE, Int.reduceNeg, implies_true]
    refine ⟨fun w => ⟨fun w2 => ?_, fun w2 => absurd w2 (by omega)⟩, fun w => hback _ (by omega) ⟨iI_e (by omega), fun j hj => ?_⟩⟩
    · rw [bgn_at (by omega) w h2] at main
      exact main
    · by_cases ej : j = k
      · subst ej; omega
      · exact h2 j (by omega)
