-- the reference's weighing
def FP (fc fo : Nat → Int32) (p r : Nat) (v d : Int) : Prop := ∃ cn co : Int, fc (600 * r + p) = iI cn ∧ fo (600 * r + p) = iI co ∧ RP cn co v d
def FR (c : Nat → Nat → Int) (n a q0 : Nat) (fc fo : Nat → Int32) : Prop := ∀ r p, r < 4 → q0 ≤ p → p ≤ a + n → FP fc fo p r (gg c n a r p) ((a + n - p : Nat) : Int)
theorem FP_upd {fc fo : Nat → Int32} {p r p' r' : Nat} {v d : Int} {x y : Int32} (h : FP fc fo p r v d) (hp : p < 600) (hp' : p' < 600) (hr : r < 4) (hr' : r' < 4) (hne : ¬ (p = p' ∧ r = r')) : FP (upd fc (600 * r' + p') x) (upd fo (600 * r' + p') y) p r v d := by
  obtain ⟨cn, co, h1, h2, h3⟩ := h
  exact ⟨cn, co, by rw [upd_f _ _ (by omega)]; exact h1, by rw [upd_f _ _ (by omega)]; exact h2, h3⟩
theorem FP_new {fc fo : Nat → Int32} {p r : Nat} {v d cn co : Int} (h : RP cn co v d) : FP (upd fc (600 * r + p) (iI cn)) (upd fo (600 * r + p) (iI co)) p r v d := ⟨cn, co, upd_t _ _ _, upd_t _ _ _, h⟩
theorem FR_upd {c : Nat → Nat → Int} {n a q0 : Nat} {fc fo : Nat → Int32} {p' r' : Nat} {x y : Int32} (h : FR c n a q0 fc fo) (han : a + n < 600) (hp' : p' < q0) (hq : q0 ≤ 600) (hr' : r' < 4) : FR c n a q0 (upd fc (600 * r' + p') x) (upd fo (600 * r' + p') y) := fun r p hr hq0 hp => FP_upd (h r p hr hq0 hp) (by omega) (by omega) hr hr' (by omega)
theorem t_M_isLess {a b c d : Int} (ha : (-2147483648 ≤ a ∧ a < 2147483648)) (hb : (-2147483648 ≤ b ∧ b < 2147483648)) (hc : (-2147483648 ≤ c ∧ c < 2147483648)) (hd : (-2147483648 ≤ d ∧ d < 2147483648)) {post : Int32 → Unit → Prop} (g : post (bI (a < c ∨ (a = c ∧ b < d))) ()) : wp_M_isLess (iI a) (iI b) (iI c) (iI d) post := by
  unfold wp_M_isLess wp_M_isLess_J15 wp_M_isLess_J19
  simp (disch := omega) only [iI_lit, iI_neg, iI_add, iI_sub, iI_mul, iI_nI, iI_ofNat, iI_lt, iI_le, iI_eq, iI_cl, bI_0, bI_1, forall_eq, forall_eq_apply_imp_iff, not_true_eq_false, not_false_eq_true, ne_eq, Classical.not_not, true_imp_iff, false_imp_iff, and_true, true_and, Int.reduceEq, Int.reduceLT, Int.reduceLE, Int.reduceNeg, implies_true]
  refine ⟨fun q => ?_, fun q => ⟨fun q2 => ?_, fun q2 => ⟨fun q3 => ?_, fun q3 => ?_⟩⟩⟩
  · rwa [bI_t (by omega)] at g
  · rwa [bI_f (by omega)] at g
  · rwa [bI_f (by omega)] at g
  · rwa [bI_t (by omega)] at g
theorem gt_b {c : Nat → Nat → Int} (hc : Hc c) {n a r p j : Nat} (hp : p < a + n) : 0 ≤ gt c n a r p j := by
  unfold gt
  refine cI_s (P := fun z => 0 ≤ z) (fun w => ?_) (fun _ => by omega)
  have := gg_0 hc (n := n) (a := a) (a + n) (r - 1) (p + j + 1) (by omega) (by omega)
  have := hc.1 p (j + 1)
  omega
theorem t_M_fill {W H : Nat} {T : TS} {cc pp : Int32} {ff fs fl fa fx fy : Nat → Int32} (hT : TB W H 7 T) (hR : RM T cc pp ff fs fl fa fx fy) {o a : Nat} (ho : o < T.1) (ha : a < 24) {s : Int} (hs : 1 ≤ s ∧ s ≤ 8) {fc fo : Nat → Int32} {post : ((Nat → Int32) × (Nat → Int32)) → Prop}
    (g : ∀ fc' fo', FR (fun p k => CO T o p k s) (nn T o) a a fc' fo' → post (fc', fo')) : wp_M_fill 900 4200 4200 900 3600 3600 fs fc fo ff fx fy (iI o) (iI a) (iI s) post := by
  have h1 := TB_o hT ho
  have h3 := hR.2.2.1 o ho
  have hc : Hc (fun p k => CO T o p k s) := ⟨fun p k => CO_b hT ho p k hs, fun p => CO_1 T o p s⟩
  have hcost : ∀ p k : Nat, p < nn T o → 1 ≤ k → k ≤ 24 → ∀ Q : Int32 → Unit → Prop, Q (iI ((fun p k => CO T o p k s) p k)) () → wp_M_costOf 900 900 3600 3600 ff fs fx fy (iI o) (iI p) (iI k) (iI s) Q := fun p k hp hk hk' Q q => t_M_costOf hT hR ho (by omega) ⟨hk, hk'⟩ hs q
  generalize (fun p k => CO T o p k s) = c at *
  have hvo : vp_in (iI (o : Int)) 900 := iI_in (by omega) (by omega) (by omega)
  unfold wp_M_fill
  rw [iI_cl (by omega) (by omega), Int.toNat_natCast, h3.2.1, show ((T.2.1 (o + 1) - T.2.1 o : Nat)) = nn T o from rfl]
  generalize nn T o = n at *
  have hn : 4 ≤ n ∧ n ≤ 512 := by omega
  clear h1 h3
  simp only [iI_lit, iI_neg, iI_add, iI_sub, iI_mul, iI_nI, iI_ofNat, iI_lt, iI_le, iI_eq, iI_cl, bI_0, bI_1, forall_eq, forall_eq_apply_imp_iff, not_true_eq_false, not_false_eq_true, ne_eq, Classical.not_not, true_imp_iff, false_imp_iff, and_true, true_and, Int.reduceEq, Int.reduceLT, Int.reduceLE, Int.reduceNeg, implies_true]
  rw [show (a : Int) + n = ((a + n : Nat) : Int) by omega]
  refine ⟨hvo, ?_⟩
  refine lp_n (fun k z => z.1 = iI k ∧ ∀ r, r < k → FP z.2.1 z.2.2 (a + n) r (gg c n a r (a + n)) ((a + n - (a + n) : Nat) : Int)) 4 ⟨0, by omega, rfl, fun r hr => absurd hr (Nat.not_lt_zero r)⟩ ?_
  rintro k ⟨x, fc1, fo1⟩ back hk ⟨e1, e2⟩ hback
  have e1 : x = _ := e1; subst e1
  have e2 : ∀ r, r < k → FP fc1 fo1 (a + n) r (gg c n a r (a + n)) ((a + n - (a + n) : Nat) : Int) := e2
  simp (disch := omega) only [wp_M_fill_L17, iI_lit, iI_neg, iI_add, iI_sub, iI_mul, iI_nI, iI_ofNat, iI_lt, iI_le, iI_eq, iI_cl, bI_0, bI_1, forall_eq, forall_eq_apply_imp_iff, not_true_eq_false, not_false_eq_true, ne_eq, Classical.not_not, true_imp_iff, false_imp_iff, and_true, true_and, Int.reduceEq, Int.reduceLT, Int.reduceLE, Int.reduceNeg, implies_true]
  refine ⟨fun q => ?_, fun q => ?_⟩
  rotate_left
  · have fin : ∀ v : Int, v = cI (k = 0) 0 1000000000 → wp_M_fill_J47 900 4200 4200 900 3600 3600 fs ff fx fy fc1 fo1 (iI o) (iI a) (iI s) (iI n) (iI ((a + n : Nat) : Int)) (iI k) (iI v) (iI (600 * (k : Int) + ((a + n : Nat) : Int))) back post := by
      intro v hv
      unfold wp_M_fill_J47
      simp (disch := omega) only [iI_lit, iI_neg, iI_add, iI_sub, iI_mul, iI_nI, iI_ofNat, iI_lt, iI_le, iI_eq, iI_cl, bI_0, bI_1, forall_eq, forall_eq_apply_imp_iff, not_true_eq_false, not_false_eq_true, ne_eq, Classical.not_not, true_imp_iff, false_imp_iff, and_true, true_and, Int.reduceEq, Int.reduceLT, Int.reduceLE, Int.reduceNeg, implies_true]
      rw [show (600 * (k : Int) + ((a + n : Nat) : Int)).toNat = 600 * k + (a + n) by omega]
      refine ⟨iI_in (by omega) (by omega) (by omega), iI_in (by omega) (by omega) (by omega), hback _ (by omega) ⟨by show iI _ = iI _; congr 1, fun r hr => ?_⟩⟩
      by_cases e : r = k
      · subst e
        refine FP_new ?_
        rw [gg_end]
        by_cases e0 : r = 0
        · rw [cI_t e0, hv, cI_t e0]; left; simp
        · rw [cI_f e0, hv, cI_f e0]; right; simp
      · exact FP_upd (e2 r (by omega)) (by omega) (by omega) (by omega) (by omega) (by omega)
    refine ⟨fun z => fin _ (by rw [cI_f (by omega)]), fun z => fin _ (by rw [cI_t (by omega)])⟩
  obtain rfl : k = 4 := by omega
  have hF : FR c n a (a + n - 0) fc1 fo1 := fun r p hr hq hp => by
    obtain rfl : p = a + n := by omega
    exact e2 r hr
  clear e2 hback
  refine lp_n (fun m z => z.1 = iI (((a + n - m : Nat) : Int) - 1) ∧ FR c n a (a + n - m) z.2.1 z.2.2) n ⟨0, by omega, rfl, hF⟩ ?_
  clear hF
  rintro m ⟨x, fc2, fo2⟩ backp hm ⟨e1, e2⟩ hbackp
  have e1 : x = _ := e1; subst e1
  have e2 : FR c n a (a + n - m) fc2 fo2 := e2
  simp (disch := omega) only [wp_M_fill_L75, iI_lit, iI_neg, iI_add, iI_sub, iI_mul, iI_nI, iI_ofNat, iI_lt, iI_le, iI_eq, iI_cl, bI_0, bI_1, forall_eq, forall_eq_apply_imp_iff, not_true_eq_false, not_false_eq_true, ne_eq, Classical.not_not, true_imp_iff, false_imp_iff, and_true, true_and, Int.reduceEq, Int.reduceLT, Int.reduceLE, Int.reduceNeg, implies_true]
  refine ⟨fun q => ?_, fun q => ?_⟩
  · obtain rfl : m = n := by omega
    rw [show a + m - m = a by omega] at e2
    exact g _ _ e2
  have ep : ((a + n - m : Nat) : Int) - 1 = ((a + n - m - 1 : Nat) : Int) := by omega
  rw [ep]
  obtain ⟨p, hp⟩ : ∃ p, p = a + n - m - 1 := ⟨_, rfl⟩
  rw [← hp]
  have e2 : FR c n a (p + 1) fc2 fo2 := by rw [show p + 1 = a + n - m by omega]; exact e2
  refine lp_n (fun k z => z.1 = iI k ∧ FR c n a (p + 1) z.2.1 z.2.2 ∧ ∀ r, r < k → FP z.2.1 z.2.2 p r 1073741824 ((a + n - p : Nat) : Int)) 4 ⟨0, by omega, rfl, e2, fun r hr => absurd hr (Nat.not_lt_zero r)⟩ ?_
  clear e2
  rintro k ⟨x, fc3, fo3⟩ back3 hk ⟨e1, e2, e3⟩ hback3
  have e1 : x = _ := e1; subst e1
  have e2 : FR c n a (p + 1) fc3 fo3 := e2
  have e3 : ∀ r, r < k → FP fc3 fo3 p r 1073741824 ((a + n - p : Nat) : Int) := e3
  simp (disch := omega) only [wp_M_fill_L84, iI_lit, iI_neg, iI_add, iI_sub, iI_mul, iI_nI, iI_ofNat, iI_lt, iI_le, iI_eq, iI_cl, bI_0, bI_1, forall_eq, forall_eq_apply_imp_iff, not_true_eq_false, not_false_eq_true, ne_eq, Classical.not_not, true_imp_iff, false_imp_iff, and_true, true_and, Int.reduceEq, Int.reduceLT, Int.reduceLE, Int.reduceNeg, implies_true]
  refine ⟨fun q2 => ?_, fun q2 => ?_⟩
  rotate_left
  · rw [show (600 * (k : Int) + (p : Int)).toNat = 600 * k + p by omega]
    refine ⟨iI_in (by omega) (by omega) (by omega), iI_in (by omega) (by omega) (by omega), hback3 _ (by omega) ⟨by show iI _ = iI _; congr 1, FR_upd e2 (by omega) (by omega) (by omega) (by omega), fun r hr => ?_⟩⟩
    by_cases e : r = k
    · subst e; refine FP_new ?_; right; simp
    · exact FP_upd (e3 r (by omega)) (by omega) (by omega) (by omega) (by omega) (by omega)
  obtain rfl : k = 4 := by omega
  clear hback3
  refine lp_n (fun j z => z.1 = iI ((j : Int) + 1) ∧ FR c n a (p + 1) z.2.1 z.2.2 ∧ ∀ r, r < 4 → FP z.2.1 z.2.2 p r (lo (gt c n a r p) j) ((a + n - p : Nat) : Int)) 24 ⟨0, by omega, rfl, e2, fun r hr => e3 r hr⟩ ?_
  clear e2 e3
  rintro j ⟨x, fc4, fo4⟩ back4 hj ⟨e1, e2, e3⟩ hback4
  have e1 : x = _ := e1; subst e1
  have e2 : FR c n a (p + 1) fc4 fo4 := e2
  have e3 : ∀ r, r < 4 → FP fc4 fo4 p r (lo (gt c n a r p) j) ((a + n - p : Nat) : Int) := e3
  have done : (∀ r, r < 4 → gg c n a r p = lo (gt c n a r p) j) → backp (iI ((p : Int) + -1), fc4, fo4) := by
    intro hd
    refine hbackp _ (by omega) ⟨by show iI _ = iI _; congr 1; omega, fun r q hr hq hqn => ?_⟩
    by_cases e : q = p
    · subst e; rw [hd r hr]; exact e3 r hr
    · exact e2 r q hr (by omega) hqn
  simp (disch := omega) only [wp_M_fill_L130, wp_M_fill_J337, iI_lit, iI_neg, iI_add, iI_sub, iI_mul, iI_nI, iI_ofNat, iI_lt, iI_le, iI_eq, iI_cl, bI_0, bI_1, forall_eq, forall_eq_apply_imp_iff, not_true_eq_false, not_false_eq_true, ne_eq, Classical.not_not, true_imp_iff, false_imp_iff, and_true, true_and, Int.reduceEq, Int.reduceLT, Int.reduceLE, Int.reduceNeg, implies_true]
  refine ⟨fun q3 => ?_, fun q3 => ⟨fun q4 => ?_, fun q4 => ?_⟩⟩
  · obtain rfl : j = 24 := by omega
    exact done (fun r hr => gg_eq c (by omega))
  · refine done (fun r hr => ?_)
    rw [gg_eq c (by omega)]
    have hi : ∀ t, 1073741824 ≤ gt c n a r p t := fun t => by unfold gt; rw [cI_f (by omega)]; omega
    rw [lo_inf (fun t _ => hi t), lo_inf (fun t _ => hi t)]
  have hpn : p < n := by omega
  have hq : (p : Int) + ((j : Int) + 1) = ((p + j + 1 : Nat) : Int) := by omega
  rw [hq]
  have hcb := hc.1 p (j + 1)
  -- the four rows for one piece
  have four : ∀ own : Int, (own = -1 ∨ (own = c p (j + 1) ∧ (p + j + 1 < n ∨ p + j + 1 = a + n))) → (own = -1 → ¬ ((p + j + 1 < n ∨ p + j + 1 = a + n) ∧ c p (j + 1) ≠ -1)) → wp_M_fill_J191 900 4200 4200 900 3600 3600 fs ff fx fy fc4 fo4 (iI o) (iI a) (iI s) (iI n) (iI ((a + n : Nat) : Int)) (iI p) (iI ((j : Int) + 1)) (iI ((p + j + 1 : Nat) : Int)) (iI own) backp back4 post := by
    intro own hown hskip
    have hob : -1 ≤ own ∧ own ≤ 64 * 24 := by omega
    have eS : ∀ r, lo (gt c n a r p) (j + 1) = min (lo (gt c n a r p) j) (gt c n a r p j) := fun r => rfl
    unfold wp_M_fill_J191
    simp only [iI_lit, iI_neg, iI_add, iI_sub, iI_mul, iI_nI, iI_ofNat, iI_lt, iI_le, iI_eq, iI_cl, bI_0, bI_1, forall_eq, forall_eq_apply_imp_iff, not_true_eq_false, not_false_eq_true, ne_eq, Classical.not_not, true_imp_iff, false_imp_iff, and_true, true_and, Int.reduceEq, Int.reduceLT, Int.reduceLE, Int.reduceNeg, implies_true]
    refine lp_n (fun k z => z.1 = iI k ∧ (own = -1 → k = 0) ∧ FR c n a (p + 1) z.2.1 z.2.2 ∧ ∀ r, r < 4 → FP z.2.1 z.2.2 p r (if r < k then lo (gt c n a r p) (j + 1) else lo (gt c n a r p) j) ((a + n - p : Nat) : Int)) 4 ⟨0, by omega, rfl, fun _ => rfl, e2, fun r hr => by rw [if_neg (by omega)]; exact e3 r hr⟩ ?_
    rintro k ⟨x, fc5, fo5⟩ back5 hk ⟨e1, e4, e5, e6⟩ hback5
    have e1 : x = _ := e1; subst e1
    have e5 : FR c n a (p + 1) fc5 fo5 := e5
    have e6 : ∀ r, r < 4 → FP fc5 fo5 p r (if r < k then lo (gt c n a r p) (j + 1) else lo (gt c n a r p) j) ((a + n - p : Nat) : Int) := e6
    simp (disch := omega) only [wp_M_fill_L196, wp_M_fill_J331, iI_lit, iI_neg, iI_add, iI_sub, iI_mul, iI_nI, iI_ofNat, iI_lt, iI_le, iI_eq, iI_cl, bI_0, bI_1, forall_eq, forall_eq_apply_imp_iff, not_true_eq_false, not_false_eq_true, ne_eq, Classical.not_not, true_imp_iff, false_imp_iff, and_true, true_and, Int.reduceEq, Int.reduceLT, Int.reduceLE, Int.reduceNeg, implies_true]
    refine ⟨fun q5 => ?_, fun q5 => ⟨fun q6 => ?_, fun q6 => ?_⟩⟩
    · obtain rfl : k = 4 := by omega
      refine hback4 _ (by omega) ⟨by show iI _ = iI _; congr 1, e5, fun r hr => ?_⟩
      have := e6 r hr; rwa [if_pos hr] at this
    · obtain rfl : k = 0 := e4 q6
      refine hback4 _ (by omega) ⟨by show iI _ = iI _; congr 1, e5, fun r hr => ?_⟩
      have h6 := e6 r hr; rw [if_neg (by omega)] at h6
      have : gt c n a r p j = 1073741824 := cI_f (fun z => hskip q6 z.2)
      have hi := lo_i (gt c n a r p) j
      dsimp only
      rw [eS, this, show min (lo (gt c n a r p) j) 1073741824 = lo (gt c n a r p) j by omega]; exact h6
    · obtain ⟨w1, w2⟩ : own = c p (j + 1) ∧ (p + j + 1 < n ∨ p + j + 1 = a + n) := by omega
      have hgt : gt c n a k p j = 262144 + own + gg c n a (k - 1) (p + j + 1) := by
        unfold gt; rw [cI_t ⟨hpn, w2, by omega⟩, w1]
      obtain ⟨tn, tc, t1, t2, t3⟩ := e5 (k - 1) (p + j + 1) (by omega) (by omega) (by omega)
      obtain ⟨an, ac, a1, a2, a3⟩ := e6 k (by omega)
      rw [if_neg (by omega)] at a3
      have tb := RP_b t3 (by omega); have ab := RP_b a3 (by omega)
      have keep : ¬ gt c n a k p j < lo (gt c n a k p) j → back5 (iI ((k : Int) + 1), fc5, fo5) := by
        intro hno
        refine hback5 _ (by omega) ⟨by show iI _ = iI _; congr 1, fun z => absurd z q6, e5, fun r hr => ?_⟩
        by_cases e : r = k
        · subst e
          refine ⟨an, ac, a1, a2, ?_⟩
          rw [if_pos (by omega), eS, show min (lo (gt c n a r p) j) (gt c n a r p j) = lo (gt c n a r p) j by omega]; exact a3
        · have := e6 r hr
          by_cases e7 : r < k
          · rw [if_pos (by omega)]; rwa [if_pos e7] at this
          · rw [if_neg (by omega)]; rwa [if_neg e7] at this
      have take : gt c n a k p j < lo (gt c n a k p) j → RP (tn + 1) (tc + own) (gt c n a k p j) ((a + n - p : Nat) : Int) → back5 (iI ((k : Int) + 1), upd fc5 (600 * k + p) (iI (tn + 1)), upd fo5 (600 * k + p) (iI (tc + own))) := by
        intro hlt hrp
        refine hback5 _ (by omega) ⟨by show iI _ = iI _; congr 1, fun z => absurd z q6, FR_upd e5 (by omega) (by omega) (by omega) (by omega), fun r hr => ?_⟩
        by_cases e : r = k
        · subst e
          rw [if_pos (by omega), eS, show min (lo (gt c n a r p) j) (gt c n a r p j) = gt c n a r p j by omega]
          exact FP_new hrp
        · refine FP_upd ?_ (by omega) (by omega) hr (by omega) (by omega)
          have := e6 r hr
          by_cases e7 : r < k
          · rw [if_pos (by omega)]; rwa [if_pos e7] at this
          · rw [if_neg (by omega)]; rwa [if_neg e7] at this
      have step : ∀ y0 : Int, y0 = ((k - 1 : Nat) : Int) → wp_M_fill_J224 900 4200 4200 900 3600 3600 fs ff fx fy fc5 fo5 (iI o) (iI a) (iI s) (iI n) (iI ((a + n : Nat) : Int)) (iI p) (iI ((j : Int) + 1)) (iI ((p + j + 1 : Nat) : Int)) (iI own) (iI k) (iI y0) (iI 600) backp back5 back4 post := by
        rintro y0 rfl
        unfold wp_M_fill_J224 wp_M_fill_J325
        simp (disch := omega) only [iI_lit, iI_neg, iI_add, iI_sub, iI_mul, iI_nI, iI_ofNat, iI_lt, iI_le, iI_eq, iI_cl, bI_0, bI_1, forall_eq, forall_eq_apply_imp_iff, not_true_eq_false, not_false_eq_true, ne_eq, Classical.not_not, true_imp_iff, false_imp_iff, and_true, true_and, Int.reduceEq, Int.reduceLT, Int.reduceLE, Int.reduceNeg, implies_true]
        rw [show (600 * ((k - 1 : Nat) : Int) + ((p + j + 1 : Nat) : Int)).toNat = 600 * (k - 1) + (p + j + 1) by omega, show (600 * (k : Int) + (p : Int)).toNat = 600 * k + p by omega, t1, t2, a1, a2]
        have i1 : vp_in (iI (600 * ((k - 1 : Nat) : Int) + ((p + j + 1 : Nat) : Int))) 4200 := iI_in (by omega) (by omega) (by omega)
        have i2 : vp_in (iI (600 * (k : Int) + (p : Int))) 4200 := iI_in (by omega) (by omega) (by omega)
        simp (disch := omega) only [iI_lit, iI_neg, iI_add, iI_sub, iI_mul, iI_nI, iI_ofNat, iI_lt, iI_le, iI_eq, iI_cl, bI_0, bI_1, forall_eq, forall_eq_apply_imp_iff, not_true_eq_false, not_false_eq_true, ne_eq, Classical.not_not, true_imp_iff, false_imp_iff, and_true, true_and, Int.reduceEq, Int.reduceLT, Int.reduceLE, Int.reduceNeg, implies_true]
        refine ⟨i1, fun z => keep ?_, fun z => ⟨i1, i1, i2, i2, ?_⟩⟩
        · have := RP_far t3 (by omega); have := lo_i (gt c n a k p) j; omega
        refine call_i (fun Q q => t_M_isLess (by omega) (by omega) (by omega) (by omega) q) ?_
        have hfar := RP_far t3 (by omega)
        have hadd := RP_add (e := own) (k := ((j + 1 : Nat) : Int)) t3 (by omega) (by omega) (by omega) (by omega) (by omega)
        rw [← hgt, show ((a + n - (p + j + 1) : Nat) : Int) + ((j + 1 : Nat) : Int) = ((a + n - p : Nat) : Int) by omega] at hadd
        have hglt : gt c n a k p j < 1073741824 := by
          have h4 := hadd; have h5 := t3; unfold RP at h4 h5; omega
        have hlt := RP_lt hadd a3 (by omega) (by omega) hglt
        simp (disch := omega) only [iI_lit, iI_neg, iI_add, iI_sub, iI_mul, iI_nI, iI_ofNat, iI_lt, iI_le, iI_eq, iI_cl, bI_0, bI_1, forall_eq, forall_eq_apply_imp_iff, not_true_eq_false, not_false_eq_true, ne_eq, Classical.not_not, true_imp_iff, false_imp_iff, and_true, true_and, Int.reduceEq, Int.reduceLT, Int.reduceLE, Int.reduceNeg, implies_true]
        refine ⟨fun z2 => keep (fun w => z2 (hlt.2 w)), fun z2 => ⟨i1, i2, i1, i2, ?_⟩⟩
        exact take (hlt.1 z2) hadd
      exact ⟨fun z => step _ (by omega), fun z => step _ (by omega)⟩
  have must : (p + j + 1 < n ∨ p + j + 1 = a + n) → wp_M_fill_J165 900 4200 4200 900 3600 3600 fs ff fx fy fc4 fo4 (iI o) (iI a) (iI s) (iI n) (iI ((a + n : Nat) : Int)) (iI p) (iI ((j : Int) + 1)) (iI ((p + j + 1 : Nat) : Int)) backp back4 post := by
    intro hmay
    unfold wp_M_fill_J165 wp_M_fill_J170
    simp (disch := omega) only [iI_lit, iI_neg, iI_add, iI_sub, iI_mul, iI_nI, iI_ofNat, iI_lt, iI_le, iI_eq, iI_cl, bI_0, bI_1, forall_eq, forall_eq_apply_imp_iff, not_true_eq_false, not_false_eq_true, ne_eq, Classical.not_not, true_imp_iff, false_imp_iff, and_true, true_and, Int.reduceEq, Int.reduceLT, Int.reduceLE, Int.reduceNeg, implies_true]
    rw [show (j : Int) + 1 = ((j + 1 : Nat) : Int) by omega] at *
    refine call_i (fun Q q => hcost p (j + 1) hpn (by omega) (by omega) Q q) ?_
    exact four _ (Or.inr ⟨rfl, hmay⟩) (fun z w => w.2 z)
  refine ⟨fun z => must (by omega), fun z => ⟨fun z2 => ?_, fun z2 => must (by omega)⟩⟩
  unfold wp_M_fill_J170
  simp (disch := omega) only [iI_lit, iI_neg, iI_add, iI_sub, iI_mul, iI_nI, iI_ofNat, iI_lt, iI_le, iI_eq, iI_cl, bI_0, bI_1, forall_eq, forall_eq_apply_imp_iff, not_true_eq_false, not_false_eq_true, ne_eq, Classical.not_not, true_imp_iff, false_imp_iff, and_true, true_and, Int.reduceEq, Int.reduceLT, Int.reduceLE, Int.reduceNeg, implies_true]
  exact four _ (Or.inl rfl) (fun _ w => by omega)
