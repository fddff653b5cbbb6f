-- the class's weighing
theorem lo_stop {f : Nat → Int} {M m : Nat} (h : ∀ j, M ≤ j → j < m → 1073741824 ≤ f j) (hm : M ≤ m) : lo f m = lo f M := by
  induction m with
  | zero => rw [show M = 0 by omega]
  | succ m ih =>
    by_cases e : M = m + 1
    · rw [e]
    · simp only [lo]
      rw [ih (fun j h1 h2 => h j h1 (by omega)) (by omega)]
      have := h m (by omega) (by omega); have := lo_i f M
      omega
theorem lo_one {f g : Nat → Int} {m j0 : Nat} (h : ∀ j, j < m → j ≠ j0 → f j = g j) (h0 : 1073741824 ≤ g j0) : lo f m = if j0 < m then min (lo g m) (f j0) else lo g m := by
  induction m with
  | zero => rfl
  | succ m ih =>
    have ih := ih (fun j hj => h j (by omega))
    simp only [lo]
    have hi := lo_i g m
    by_cases e : j0 = m
    · subst e
      rw [if_neg (by omega)] at ih
      rw [ih, if_pos (by omega)]; omega
    · rw [h m (by omega) (fun z => e z.symm), ih]
      by_cases e2 : j0 < m
      · rw [if_pos e2, if_pos (by omega)]; omega
      · rw [if_neg e2, if_neg (by omega)]
def CA (c : Nat → Nat → Int) (n : Nat) (f : Nat → Int32) : Prop := ∀ i k, i < n → 1 ≤ k → k ≤ 24 → f (i * 24 + (k - 1)) = iI (c i k)
theorem t_G_pieceCost {c : Nat → Nat → Int} {n nc : Nat} {f : Nat → Int32} (hf : CA c n f) (hn : n * 24 ≤ nc) (hnc : nc < 100000) {i : Nat} {k : Int} (hi : i < n) (hk : -10000 ≤ k ∧ k < 10000) {post : Int32 → Unit → Prop} (g : post (iI (cI (1 ≤ k ∧ k ≤ 24) (c i k.toNat) (-1))) ()) : wp_G_pieceCost nc f (iI i) (iI k) post := by
  unfold wp_G_pieceCost wp_G_pieceCost_J11
  simp (disch := omega) only [iI_lit, iI_neg, iI_add, iI_sub, iI_mul, iI_nI, iI_ofNat, iI_lt, iI_le, iI_eq, iI_cl, bI_0, bI_1, forall_eq, forall_eq_apply_imp_iff, not_true_eq_false, not_false_eq_true, ne_eq, Classical.not_not, true_imp_iff, false_imp_iff, and_true, true_and, Int.reduceEq, Int.reduceLT, Int.reduceLE, Int.reduceNeg, implies_true]
  refine ⟨fun q => ?_, fun q => ⟨fun q2 => ?_, fun q2 => ?_⟩⟩
  · rwa [cI_f (by omega)] at g
  · rw [cI_t (by omega)] at g
    have e := hf i k.toNat hi (by omega) (by omega)
    rw [show ((i : Int) * 24 + k - 1).toNat = i * 24 + (k.toNat - 1) by omega, e]
    exact ⟨iI_in (by omega) (by omega) (by omega), g⟩
  · rwa [cI_f (by omega)] at g
noncomputable def lT (c : Nat → Nat → Int) (n : Nat) (V : Nat → Int) (i j : Nat) : Int := cI (i + j + 1 < n ∧ c i (j + 1) ≠ -1) (262144 + c i (j + 1) + V (i + j + 1)) 1073741824
theorem t_G_leastThrough {c : Nat → Nat → Int} (hc : Hc c) {n nc np : Nat} {f fp : Nat → Int32} {V : Nat → Int} (hf : CA c n f) (hn : n * 24 ≤ nc) (hnc : nc < 100000) (hnp : n ≤ np) (hnp2 : np < 100000) {i : Nat} (hi : i < n) (hV : ∀ q, i < q → q < n → q ≤ i + 24 → fp q = iI (V q) ∧ 0 ≤ V q ∧ V q ≤ 1073741824) {post : Int32 → Unit → Prop} (g : post (iI (lo (lT c n V i) 24)) ()) : wp_G_leastThrough nc np f fp (iI i) (iI n) post := by
  unfold wp_G_leastThrough
  simp (disch := omega) only [iI_lit, iI_neg, iI_add, iI_sub, iI_mul, iI_nI, iI_ofNat, iI_lt, iI_le, iI_eq, iI_cl, bI_0, bI_1, forall_eq, forall_eq_apply_imp_iff, not_true_eq_false, not_false_eq_true, ne_eq, Classical.not_not, true_imp_iff, false_imp_iff, and_true, true_and, Int.reduceEq, Int.reduceLT, Int.reduceLE, Int.reduceNeg, implies_true, jmin_i]
  have hM : min ((i : Int) + 24 + 1) n = ((i + 1 + min 24 (n - i - 1) : Nat) : Int) := by omega
  rw [hM]
  have hst : lo (lT c n V i) 24 = lo (lT c n V i) (min 24 (n - i - 1)) := lo_stop (fun j h1 h2 => by unfold lT; rw [cI_f (by omega)]; omega) (by omega)
  rw [hst] at g
  refine lp_n (fun m z => z.1 = iI (lo (lT c n V i) m) ∧ z.2 = iI ((i + 1 + m : Nat) : Int)) (min 24 (n - i - 1)) ⟨0, by omega, rfl, by show iI _ = iI _; congr 1⟩ ?_
  rintro m ⟨a, b⟩ back hm ⟨h1, h2⟩ hback
  have h1 : a = _ := h1; have h2 : b = _ := h2; subst h1; subst h2
  have hl := lo_i (lT c n V i) m
  have hl0 : 0 ≤ lo (lT c n V i) m := by
    rcases lo_at (lT c n V i) m with h | ⟨j, h3, h4⟩
    · omega
    · rw [h4]; unfold lT
      refine cI_s (P := fun z => 0 ≤ z) (fun w => ?_) (fun _ => by omega)
      have := hV (i + j + 1) (by omega) w.1 (by omega); have := hc.1 i (j + 1)
      omega
  simp (disch := omega) only [wp_G_leastThrough_L21, wp_G_leastThrough_J62, iI_lit, iI_neg, iI_add, iI_sub, iI_mul, iI_nI, iI_ofNat, iI_lt, iI_le, iI_eq, iI_cl, bI_0, bI_1, forall_eq, forall_eq_apply_imp_iff, not_true_eq_false, not_false_eq_true, ne_eq, Classical.not_not, true_imp_iff, false_imp_iff, and_true, true_and, Int.reduceEq, Int.reduceLT, Int.reduceLE, Int.reduceNeg, implies_true]
  refine ⟨fun q => ?_, fun q => ?_⟩
  · obtain rfl : m = min 24 (n - i - 1) := by omega
    exact g
  have hv := hV (i + 1 + m) (by omega) (by omega) (by omega)
  have hcb := hc.1 i (m + 1)
  have eS : lo (lT c n V i) (m + 1) = min (lo (lT c n V i) m) (lT c n V i m) := rfl
  refine call_i (fun Q q => t_G_pieceCost hf hn hnc hi (by omega) q) ?_
  rw [cI_t (by omega), show (((i + 1 + m : Nat) : Int) - i).toNat = m + 1 by omega, Int.toNat_natCast, hv.1]
  simp (disch := omega) only [iI_lit, iI_neg, iI_add, iI_sub, iI_mul, iI_nI, iI_ofNat, iI_lt, iI_le, iI_eq, iI_cl, bI_0, bI_1, forall_eq, forall_eq_apply_imp_iff, not_true_eq_false, not_false_eq_true, ne_eq, Classical.not_not, true_imp_iff, false_imp_iff, and_true, true_and, Int.reduceEq, Int.reduceLT, Int.reduceLE, Int.reduceNeg, implies_true]
  have e1 : i + m + 1 = i + 1 + m := by omega
  refine ⟨fun q2 => hback _ (by omega) ⟨?_, ?_⟩, fun q2 => ⟨iI_in (by omega) (by omega) (by omega), hback _ (by omega) ⟨?_, ?_⟩⟩⟩
  · show iI _ = iI _; rw [eS]; unfold lT; rw [cI_f (fun z => z.2 q2)]; congr 1; have := lo_i (lT c n V i) m; unfold lT at this; omega
  · show iI _ = iI _; congr 1
  · rw [jmin_i (by omega) (by omega) (by omega) (by omega), eS]
    have : lT c n V i m = 262144 + c i (m + 1) + V (i + 1 + m) := by unfold lT; rw [cI_t ⟨by omega, q2⟩, e1]
    rw [this]
  · show iI _ = iI _; congr 1
-- the two rows of weights
theorem restw_1 {c : Nat → Nat → Int} {n a i : Nat} (h1 : a < i) (h2 : i < n) : gg c n a 1 i = if n + a - i ≤ 24 then (if c i (n + a - i) = -1 then lo (lT c n (gg c n a 1) i) 24 else min (lo (lT c n (gg c n a 1) i) 24) (262144 + c i (n + a - i))) else lo (lT c n (gg c n a 1) i) 24 := by
  rw [gg_eq c (by omega)]
  have h := lo_one (f := gt c n a 1 i) (g := lT c n (gg c n a 1) i) (m := 24) (j0 := n + a - i - 1) (fun j hj hne => ?_) ?_
  · rw [h]
    by_cases e : n + a - i ≤ 24
    · rw [if_pos (by omega), if_pos e]
      have ek : n + a - i - 1 + 1 = n + a - i := by omega
      by_cases e2 : c i (n + a - i) = -1
      · rw [if_pos e2]
        unfold gt
        rw [cI_f (fun z => z.2.2 (by rw [ek]; exact e2))]
        have := lo_i (lT c n (gg c n a 1) i) 24; omega
      · rw [if_neg e2]
        unfold gt
        rw [cI_t ⟨h2, by omega, by rw [ek]; exact e2⟩, ek, show i + (n + a - i - 1) + 1 = a + n by omega, gg_end, cI_t rfl, Int.add_zero]
    · rw [if_neg (by omega), if_neg e]
  · unfold gt lT
    by_cases e : i + j + 1 < n ∧ c i (j + 1) ≠ -1
    · rw [cI_t ⟨h2, Or.inl e.1, e.2⟩, cI_t e]
      rw [show (1 - 1) = 0 from rfl, gg_01 c (by omega)]
    · rw [cI_f e, cI_f (fun z => e ⟨by omega, z.2.2⟩)]
  · unfold lT; rw [cI_f (by omega)]; omega
theorem restw_r {c : Nat → Nat → Int} (hc : Hc c) {n a i r : Nat} (h1 : a ≤ i) (h2 : i < n) (hr : 2 ≤ r) : gg c n a r i = lo (lT c n (gg c n a (r - 1)) i) 24 := by
  rw [gg_eq c (by omega)]
  refine lo_c2 (fun j hj => ?_)
  unfold gt lT
  by_cases e : i + j + 1 < n ∧ c i (j + 1) ≠ -1
  · left; rw [cI_t ⟨h2, Or.inl e.1, e.2⟩, cI_t e]
  · right
    rw [cI_f e]
    refine ⟨cI_s (P := fun z => 1073741824 ≤ z) (fun w => ?_) (fun _ => by omega), by omega⟩
    have h3 : i + j + 1 = a + n := by
      rcases w.2.1 with z | z
      · exact absurd ⟨z, w.2.2⟩ e
      · exact z
    have := hc.1 i (j + 1)
    rw [h3, gg_end, cI_f (by omega)]; omega
theorem t_G_weighFrom {c : Nat → Nat → Int} (hc : Hc c) {n nc n2 n1 : Nat} {f f2 f1 : Nat → Int32} (hf : CA c n f) (hn : n * 24 ≤ nc) (hnc : nc < 100000) (hn1 : n ≤ n1) (hn2 : n ≤ n2) (hb1 : n1 < 100000) (hb2 : n2 < 100000) {a : Nat} (ha : a < n) {post : Int32 → ((Nat → Int32) × (Nat → Int32)) → Prop} (g : ∀ f2' f1', (∀ q, a < q → q < n → f1' q = iI (gg c n a 1 q)) → (∀ q, a < q → q < n → q ≤ a + 24 → f2' q = iI (gg c n a 2 q)) → post (iI (gg c n a 3 a)) (f2', f1')) : wp_G_weighFrom nc n2 n1 f f2 f1 (iI a) (iI n) post := by
  have hg : ∀ r q, q ≤ a + n → 0 ≤ gg c n a r q ∧ gg c n a r q ≤ 1073741824 := fun r q hq => ⟨gg_0 hc (a + n) r q hq (by omega), gg_i c hq⟩
  unfold wp_G_weighFrom
  simp only [iI_lit, iI_neg, iI_add, iI_sub, iI_mul, iI_nI, iI_ofNat, iI_lt, iI_le, iI_eq, iI_cl, bI_0, bI_1, forall_eq, forall_eq_apply_imp_iff, not_true_eq_false, not_false_eq_true, ne_eq, Classical.not_not, true_imp_iff, false_imp_iff, and_true, true_and, Int.reduceEq, Int.reduceLT, Int.reduceLE, Int.reduceNeg, implies_true]
  refine lp_n (fun m z => z.1 = iI (((n - m : Nat) : Int) - 1) ∧ ∀ q, n - m ≤ q → q < n → z.2 q = iI (gg c n a 1 q)) (n - 1 - a) ⟨0, by omega, rfl, fun q h1 h2 => by omega⟩ ?_
  rintro m ⟨x, f1'⟩ back hm ⟨h1, h2⟩ hback
  have h1 : x = _ := h1; subst h1
  have h2 : ∀ q, n - m ≤ q → q < n → f1' q = iI (gg c n a 1 q) := h2
  simp (disch := omega) only [wp_G_weighFrom_L4, iI_lit, iI_neg, iI_add, iI_sub, iI_mul, iI_nI, iI_ofNat, iI_lt, iI_le, iI_eq, iI_cl, bI_0, bI_1, forall_eq, forall_eq_apply_imp_iff, not_true_eq_false, not_false_eq_true, ne_eq, Classical.not_not, true_imp_iff, false_imp_iff, and_true, true_and, Int.reduceEq, Int.reduceLT, Int.reduceLE, Int.reduceNeg, implies_true, jmin_i]
  refine ⟨fun q => ?_, fun q => ?_⟩
  · obtain rfl : m = n - 1 - a := by omega
    have hr1 : ∀ q, a < q → q < n → f1' q = iI (gg c n a 1 q) := fun q h3 h4 => h2 q (by omega) h4
    have hM : min ((a : Int) + 24 + 1) n = ((a + 1 + min 24 (n - a - 1) : Nat) : Int) := by omega
    rw [hM]
    refine lp_n (fun m z => z.1 = iI ((a + 1 + m : Nat) : Int) ∧ ∀ q, a < q → q < a + 1 + m → z.2 q = iI (gg c n a 2 q)) (min 24 (n - a - 1)) ⟨0, by omega, by show iI _ = iI _; congr 1, fun q h1 h2 => by omega⟩ ?_
    rintro m ⟨x, f2'⟩ back2 hm ⟨h1, h3⟩ hback2
    have h1 : x = _ := h1; subst h1
    have h3 : ∀ q, a < q → q < a + 1 + m → f2' q = iI (gg c n a 2 q) := h3
    simp (disch := omega) only [wp_G_weighFrom_L82, iI_lit, iI_neg, iI_add, iI_sub, iI_mul, iI_nI, iI_ofNat, iI_lt, iI_le, iI_eq, iI_cl, bI_0, bI_1, forall_eq, forall_eq_apply_imp_iff, not_true_eq_false, not_false_eq_true, ne_eq, Classical.not_not, true_imp_iff, false_imp_iff, and_true, true_and, Int.reduceEq, Int.reduceLT, Int.reduceLE, Int.reduceNeg, implies_true]
    refine ⟨fun q2 => ?_, fun q2 => ?_⟩
    · obtain rfl : m = min 24 (n - a - 1) := by omega
      have hr2 : ∀ q, a < q → q < n → q ≤ a + 24 → f2' q = iI (gg c n a 2 q) := fun q h5 h6 h7 => h3 q h5 (by omega)
      refine call_i (fun Q q => t_G_leastThrough hc (V := gg c n a 2) hf hn hnc hn2 hb2 ha (fun q h5 h6 h7 => ⟨hr2 q h5 h6 h7, hg 2 q (by omega)⟩) q) ?_
      rw [← restw_r hc (r := 3) (by omega) ha (by omega)]
      exact g _ _ hr1 hr2
    · refine call_i (fun Q q => t_G_leastThrough hc (V := gg c n a 1) hf hn hnc hn1 hb1 (by omega) (fun q h5 h6 h7 => ⟨hr1 q (by omega) h6, hg 1 q (by omega)⟩) q) ?_
      rw [← restw_r hc (r := 2) (by omega) (by omega) (by omega)]
      refine ⟨iI_in (by omega) (by omega) (by omega), hback2 _ (by omega) ⟨by show iI _ = iI _; congr 1, fun q h5 h6 => ?_⟩⟩
      show upd f2' _ _ q = _
      rw [Int.toNat_natCast]
      by_cases e : q = a + 1 + m
      · rw [e, upd_t]
      · rw [upd_f _ _ e]; exact h3 q h5 (by omega)
  · have ei : ((n - m : Nat) : Int) - 1 = ((n - m - 1 : Nat) : Int) := by omega
    rw [ei]
    refine call_i (fun Q q => t_G_pieceCost hf hn hnc (by omega) (by omega) q) ?_
    refine call_i (fun Q q => t_G_leastThrough hc (V := gg c n a 1) hf hn hnc hn1 hb1 (by omega) (fun q h5 h6 h7 => ⟨h2 q (by omega) h6, hg 1 q (by omega)⟩) q) ?_
    have hre := restw_1 (c := c) (n := n) (a := a) (i := n - m - 1) (by omega) (by omega)
    have hcb := hc.1 (n - m - 1) (n + a - (n - m - 1))
    have hli := lo_i (lT c n (gg c n a 1) (n - m - 1)) 24
    have hl0 : 0 ≤ lo (lT c n (gg c n a 1) (n - m - 1)) 24 := by
      rcases lo_at (lT c n (gg c n a 1) (n - m - 1)) 24 with h | ⟨j, h3, h4⟩
      · omega
      · rw [h4]; unfold lT
        refine cI_s (P := fun z => 0 ≤ z) (fun w => ?_) (fun _ => by omega)
        have := hg 1 (n - m - 1 + j + 1) (by omega); have := hc.1 (n - m - 1) (j + 1)
        omega
    rw [show ((n : Int) + a - ((n - m - 1 : Nat) : Int)).toNat = n + a - (n - m - 1) by omega]
    have fin : ∀ v : Int, v = gg c n a 1 (n - m - 1) → wp_G_weighFrom_J59 nc n2 n1 f f2 f1' (iI a) (iI n) (iI ((n - m - 1 : Nat) : Int)) (iI v) (iI ((n - m - 1 : Nat) : Int)) back post := by
      rintro v rfl
      unfold wp_G_weighFrom_J59
      simp (disch := omega) only [iI_lit, iI_neg, iI_add, iI_sub, iI_mul, iI_nI, iI_ofNat, iI_lt, iI_le, iI_eq, iI_cl, bI_0, bI_1, forall_eq, forall_eq_apply_imp_iff, not_true_eq_false, not_false_eq_true, ne_eq, Classical.not_not, true_imp_iff, false_imp_iff, and_true, true_and, Int.reduceEq, Int.reduceLT, Int.reduceLE, Int.reduceNeg, implies_true, Int.toNat_natCast]
      refine ⟨iI_in (by omega) (by omega) (by omega), hback _ (by omega) ⟨by show iI _ = iI _; congr 1, fun q h5 h6 => ?_⟩⟩
      show upd f1' _ _ q = _
      by_cases e : q = n - m - 1
      · rw [e, upd_t]
      · rw [upd_f _ _ e]; exact h2 q (by omega) h6
    by_cases e24 : n + a - (n - m - 1) ≤ 24
    · rw [cI_t (by omega)]
      rw [if_pos e24] at hre
      simp (disch := omega) only [iI_lit, iI_neg, iI_add, iI_sub, iI_mul, iI_nI, iI_ofNat, iI_lt, iI_le, iI_eq, iI_cl, bI_0, bI_1, forall_eq, forall_eq_apply_imp_iff, not_true_eq_false, not_false_eq_true, ne_eq, Classical.not_not, true_imp_iff, false_imp_iff, and_true, true_and, Int.reduceEq, Int.reduceLT, Int.reduceLE, Int.reduceNeg, implies_true, jmin_i]
      refine ⟨fun z => fin _ ?_, fun z => fin _ ?_⟩
      · rw [hre, if_neg z]
      · rw [hre, if_pos z]
    · rw [cI_f (by omega)]
      rw [if_neg e24] at hre
      simp (disch := omega) only [iI_lit, iI_neg, iI_add, iI_sub, iI_mul, iI_nI, iI_ofNat, iI_lt, iI_le, iI_eq, iI_cl, bI_0, bI_1, forall_eq, forall_eq_apply_imp_iff, not_true_eq_false, not_false_eq_true, ne_eq, Classical.not_not, true_imp_iff, false_imp_iff, and_true, true_and, Int.reduceEq, Int.reduceLT, Int.reduceLE, Int.reduceNeg, implies_true, jmin_i]
      exact fin _ hre.symm
