-- the corners in their order
def nxP (c : Nat → Nat → Int) (n a p r k : Nat) : Prop := 1 ≤ k ∧ k ≤ 24 ∧ (p + k < n ∨ p + k = a + n) ∧ c p k ≠ -1 ∧ 262144 + c p k + gg c n a (r - 1) (p + k) = gg c n a r p
noncomputable def nxk (c : Nat → Nat → Int) (n a p r : Nat) : Nat := mu (nxP c n a p r)
noncomputable def KK (c : Nat → Nat → Int) (n a : Nat) : Nat → Nat
  | 0 => a
  | j + 1 => KK c n a j + nxk c n a (KK c n a j) (3 - j)
theorem nx_ex {c : Nat → Nat → Int} (hc : Hc c) {n a p r : Nat} (hp : p < a + n) (hg : gg c n a r p < 1073741824) : p < n ∧ nxP c n a p r (nxk c n a p r) ∧ (∀ k, k < nxk c n a p r → ¬ nxP c n a p r k) ∧ gg c n a (r - 1) (p + nxk c n a p r) < 1073741824 := by
  have he := gg_eq c (n := n) (a := a) (r := r) hp
  rcases lo_at (gt c n a r p) 24 with h | ⟨j, h1, h2⟩
  · omega
  · rw [h2] at he
    have hcond : p < n ∧ (p + j + 1 < n ∨ p + j + 1 = a + n) ∧ c p (j + 1) ≠ -1 := by
      refine Classical.byContradiction (fun z => ?_)
      unfold gt at he; rw [cI_f z] at he; omega
    unfold gt at he; rw [cI_t hcond] at he
    have hP : nxP c n a p r (j + 1) := ⟨by omega, by omega, hcond.2.1, hcond.2.2, he.symm⟩
    have hm := mu_s ⟨_, hP⟩
    refine ⟨hcond.1, hm.1, hm.2, ?_⟩
    have h3 := hm.1
    have h4 := hc.1 p (mu (nxP c n a p r))
    show gg c n a (r - 1) (p + mu (nxP c n a p r)) < 1073741824
    generalize mu (nxP c n a p r) = k0 at h3 h4 ⊢
    unfold nxP at h3
    omega
theorem KK_s {c : Nat → Nat → Int} (hc : Hc c) {n a : Nat} (ha : a < n) (hg : gg c n a 3 a < 1073741824) (j : Nat) : (∀ i, i < j → KK c n a i < a + n) → a + j ≤ KK c n a j ∧ KK c n a j ≤ a + n ∧ gg c n a (3 - j) (KK c n a j) < 1073741824 := by
  induction j with
  | zero => intro _; exact ⟨Nat.le_refl _, by show a ≤ a + n; omega, hg⟩
  | succ j ih =>
    intro h
    have h1 := ih (fun i hi => h i (by omega))
    have h2 := nx_ex hc (r := 3 - j) (h j (by omega)) h1.2.2
    have h3 := h2.2.1
    unfold nxP at h3
    have e : KK c n a (j + 1) = KK c n a j + nxk c n a (KK c n a j) (3 - j) := rfl
    rw [e]
    refine ⟨by omega, by omega, ?_⟩
    have h4 := h2.2.2.2
    rwa [show 3 - j - 1 = 3 - (j + 1) by omega] at h4
noncomputable def fN (c : Nat → Nat → Int) (n a : Nat) : Nat := mu (fun j => KK c n a j = a + n)
theorem fN_s {c : Nat → Nat → Int} (hc : Hc c) {n a : Nat} (ha : a < n) (hg : gg c n a 3 a < 1073741824) : KK c n a (fN c n a) = a + n ∧ (∀ j, j < fN c n a → KK c n a j < n ∧ a + j ≤ KK c n a j ∧ gg c n a (3 - j) (KK c n a j) < 1073741824) ∧ 3 ≤ fN c n a ∧ fN c n a ≤ n := by
  have hex : ∃ j, KK c n a j = a + n := by
    refine Classical.byContradiction (fun hno => ?_)
    have hlt : ∀ j, KK c n a j < a + n := by
      intro j
      induction j using Nat.strongRecOn with
      | _ j ih =>
        have h1 := KK_s hc ha hg j (fun i hi => ih i hi)
        have : KK c n a j ≠ a + n := fun z => hno ⟨j, z⟩
        omega
    have h1 := KK_s hc ha hg (n + 1) (fun i _ => hlt i)
    omega
  have hm := mu_s hex
  have hlt : ∀ j, j < fN c n a → KK c n a j < a + n := by
    intro j
    induction j using Nat.strongRecOn with
    | _ j ih =>
      intro hj
      have h1 := KK_s hc ha hg j (fun i hi => ih i hi (by omega))
      have : KK c n a j ≠ a + n := hm.2 j hj
      omega
  have hall : ∀ j, j < fN c n a → KK c n a j < n ∧ a + j ≤ KK c n a j ∧ gg c n a (3 - j) (KK c n a j) < 1073741824 := fun j hj => by
    have h1 := KK_s hc ha hg j (fun i hi => hlt i (by omega))
    exact ⟨(nx_ex hc (hlt j hj) h1.2.2).1, h1.1, h1.2.2⟩
  have h3 : 3 ≤ fN c n a := by
    refine Classical.byContradiction (fun hc3 => ?_)
    have h1 := KK_s hc ha hg (fN c n a) hlt
    have e : KK c n a (fN c n a) = a + n := hm.1
    rw [e, gg_end, cI_f (by omega)] at h1
    omega
  have hn := KK_s hc ha hg (fN c n a) hlt
  refine ⟨hm.1, hall, h3, by omega⟩
-- a search for the earliest
theorem t_G_earliest {c : Nat → Nat → Int} (hc : Hc c) {n nc np : Nat} {f fp : Nat → Int32} {V : Nat → Int} (hf : CA c n f) (hn : n * 24 ≤ nc) (hnc : nc < 100000) (hnp : n ≤ np) (hnp2 : np < 100000) {i : Nat} {w : Int} (hi : i < n) (hw : (-2147483648 ≤ w ∧ w < 2147483648)) (hV : ∀ q, i < q → q < n → q ≤ i + 24 → fp q = iI (V q) ∧ 0 ≤ V q ∧ V q ≤ 1073741824) {post : Int32 → Unit → Prop}
    (g1 : ∀ k, 1 ≤ k → k ≤ 24 → i + k < n → c i k ≠ -1 → 262144 + c i k + V (i + k) = w → (∀ k', 1 ≤ k' → k' < k → ¬ (c i k' ≠ -1 ∧ 262144 + c i k' + V (i + k') = w)) → post (iI ((i + k : Nat) : Int)) ())
    (g2 : (∀ k', 1 ≤ k' → k' ≤ 24 → i + k' < n → ¬ (c i k' ≠ -1 ∧ 262144 + c i k' + V (i + k') = w)) → post (iI (-1)) ()) : wp_G_earliestThrough nc np f fp (iI i) (iI n) (iI w) post := by
  unfold wp_G_earliestThrough
  simp (disch := omega) only [iI_lit, iI_neg, iI_add, iI_sub, iI_mul, iI_nI, iI_ofNat, iI_lt, iI_le, iI_eq, iI_cl, bI_0, bI_1, forall_eq, forall_eq_apply_imp_iff, not_true_eq_false, not_false_eq_true, ne_eq, Classical.not_not, true_imp_iff, false_imp_iff, and_true, true_and, Int.reduceEq, Int.reduceLT, Int.reduceLE, Int.reduceNeg, implies_true, jmin_i]
  have hM : min ((i : Int) + 24 + 1) n = ((i + 1 + min 24 (n - i - 1) : Nat) : Int) := by omega
  rw [hM]
  refine lp_n (fun m z => z = iI ((i + 1 + m : Nat) : Int) ∧ ∀ k', 1 ≤ k' → k' < m + 1 → ¬ (c i k' ≠ -1 ∧ 262144 + c i k' + V (i + k') = w)) (min 24 (n - i - 1)) ⟨0, by omega, by show iI _ = iI _; congr 1, fun k' h1 h2 => by omega⟩ ?_
  rintro m b back hm ⟨h1, h2⟩ hback
  have h1 : b = _ := h1; subst h1
  simp (disch := omega) only [wp_G_earliestThrough_L17, wp_G_earliestThrough_J59, iI_lit, iI_neg, iI_add, iI_sub, iI_mul, iI_nI, iI_ofNat, iI_lt, iI_le, iI_eq, iI_cl, bI_0, bI_1, forall_eq, forall_eq_apply_imp_iff, not_true_eq_false, not_false_eq_true, ne_eq, Classical.not_not, true_imp_iff, false_imp_iff, and_true, true_and, Int.reduceEq, Int.reduceLT, Int.reduceLE, Int.reduceNeg, implies_true]
  refine ⟨fun q => ?_, fun q => ?_⟩
  · obtain rfl : m = min 24 (n - i - 1) := by omega
    exact g2 (fun k' z1 z2 z3 => h2 k' z1 (by omega))
  have hv := hV (i + 1 + m) (by omega) (by omega) (by omega)
  have hcb := hc.1 i (m + 1)
  have go : ¬ (c i (m + 1) ≠ -1 ∧ 262144 + c i (m + 1) + V (i + (m + 1)) = w) → back (iI (((i + 1 + m : Nat) : Int) + 1)) := fun z => hback _ (by omega) ⟨by show iI _ = iI _; congr 1, fun k' z1 z2 => by
    by_cases e : k' = m + 1
    · rw [e]; exact z
    · exact h2 k' z1 (by omega)⟩
  refine call_i (fun Q q => t_G_pieceCost hf hn hnc hi (by omega) q) ?_
  rw [cI_t (by omega), show (((i + 1 + m : Nat) : Int) - i).toNat = m + 1 by omega, Int.toNat_natCast, hv.1]
  have e1 : i + (m + 1) = i + 1 + m := by omega
  simp (disch := omega) only [iI_lit, iI_neg, iI_add, iI_sub, iI_mul, iI_nI, iI_ofNat, iI_lt, iI_le, iI_eq, iI_cl, bI_0, bI_1, forall_eq, forall_eq_apply_imp_iff, not_true_eq_false, not_false_eq_true, ne_eq, Classical.not_not, true_imp_iff, false_imp_iff, and_true, true_and, Int.reduceEq, Int.reduceLT, Int.reduceLE, Int.reduceNeg, implies_true]
  refine ⟨fun q2 => go (fun z => z.1 q2), fun q2 => ⟨iI_in (by omega) (by omega) (by omega), fun q3 => go (fun z => q3 (by rw [← e1]; exact z.2)), fun q3 => ?_⟩⟩
  have := g1 (m + 1) (by omega) (by omega) (by omega) q2 (by rw [e1]; exact q3) (fun k' z1 z2 => h2 k' z1 z2)
  rwa [e1] at this
-- one step of the class's row of corners
theorem t_G_step {c : Nat → Nat → Int} (hc : Hc c) {n nc np a : Nat} {f fp : Nat → Int32} (hf : CA c n f) (hn : n * 24 ≤ nc) (hnc : nc < 100000) (hnp : n ≤ np) (hnp2 : np < 100000) {i r : Nat} (ha : a ≤ i) (hi : i < n) (hg : gg c n a r i < 1073741824) (hV : ∀ q, i < q → q < n → q ≤ i + 24 → fp q = iI (gg c n a (r - 1) q)) {post : Int32 → Unit → Prop}
    (g : post (iI (cI (i + nxk c n a i r < n) ((i + nxk c n a i r : Nat) : Int) (-1))) ()) : wp_G_earliestThrough nc np f fp (iI i) (iI n) (iI (gg c n a r i)) post := by
  have hb : ∀ r q, q ≤ a + n → 0 ≤ gg c n a r q ∧ gg c n a r q ≤ 1073741824 := fun r q hq => ⟨gg_0 hc (a + n) r q hq (by omega), gg_i c hq⟩
  obtain ⟨h1, h2, h3, h4⟩ := nx_ex hc (by omega) hg
  have hbb := hb r i (by omega)
  refine t_G_earliest hc (V := gg c n a (r - 1)) hf hn hnc hnp hnp2 hi (by omega) (fun q z1 z2 z3 => ⟨hV q z1 z2 z3, hb (r - 1) q (by omega)⟩) (fun k k1 k2 k3 k4 k5 k6 => ?_) (fun hno => ?_)
  · have e : nxk c n a i r = k := by
      rcases Nat.lt_trichotomy (nxk c n a i r) k with z | z | z
      · unfold nxP at h2
        exact absurd ⟨h2.2.2.2.1, h2.2.2.2.2⟩ (k6 _ h2.1 z)
      · exact z
      · exact absurd ⟨k1, k2, Or.inl k3, k4, k5⟩ (h3 k z)
    rw [e] at g
    rwa [cI_t k3] at g
  · rw [cI_f (fun z => ?_)] at g
    · exact g
    · unfold nxP at h2
      exact hno _ h2.1 h2.2.1 z ⟨h2.2.2.2.1, h2.2.2.2.2⟩
theorem t_G_follow {c : Nat → Nat → Int} (hc : Hc c) {n np nc n2 n1 a : Nat} {fp f f2 f1 : Nat → Int32} {cn : Int32} (hf : CA c n f) (hn : n * 24 ≤ nc) (hnc : nc < 100000) (hnp : n ≤ np) (hn2 : n ≤ n2) (hn1 : n ≤ n1) (hbp : np < 100000) (hb1 : n1 < 100000) (hb2 : n2 < 100000) (hn4 : 4 ≤ n) (ha : a < n) (hg : gg c n a 3 a < 1073741824)
    (hr1 : ∀ q, a < q → q < n → f1 q = iI (gg c n a 1 q)) (hr2 : ∀ q, a < q → q < n → q ≤ a + 24 → f2 q = iI (gg c n a 2 q)) {post : (Int32 × (Nat → Int32)) → Prop}
    (g : ∀ fp', (∀ j, j < fN c n a → fp' j = iI ((KK c n a j : Nat) : Int)) → post (iI ((fN c n a : Nat) : Int), fp')) : wp_G_follow np nc n2 n1 cn fp f f2 f1 (iI a) (iI n) (iI (gg c n a 3 a)) post := by
  obtain ⟨s1, s2, s3, s4⟩ := fN_s hc ha hg
  have p1 := s2 1 (by omega); have p2 := s2 2 (by omega)
  have e1 : KK c n a 1 = a + nxk c n a a 3 := rfl
  have x1 := nx_ex hc (r := 3) (p := a) (by omega) hg
  have x1' := x1.2.1
  unfold nxP at x1'
  unfold wp_G_follow
  simp only [iI_lit, iI_neg, iI_add, iI_sub, iI_mul, iI_nI, iI_ofNat, iI_lt, iI_le, iI_eq, iI_cl, bI_0, bI_1, forall_eq, forall_eq_apply_imp_iff, not_true_eq_false, not_false_eq_true, ne_eq, Classical.not_not, true_imp_iff, false_imp_iff, and_true, true_and, Int.reduceEq, Int.reduceLT, Int.reduceLE, Int.reduceNeg, implies_true]
  rw [show Int.toNat 0 = 0 from rfl]
  refine ⟨iI_in (by omega) (by omega) (by omega), ?_⟩
  refine call_i (fun Q q => t_G_step hc (r := 3) hf hn hnc hn2 hb2 (Nat.le_refl a) ha hg (fun q z1 z2 z3 => hr2 q z1 z2 z3) q) ?_
  rw [← e1, cI_t p1.1]
  simp (disch := omega) only [iI_lit, iI_neg, iI_add, iI_sub, iI_mul, iI_nI, iI_ofNat, iI_lt, iI_le, iI_eq, iI_cl, bI_0, bI_1, forall_eq, forall_eq_apply_imp_iff, not_true_eq_false, not_false_eq_true, ne_eq, Classical.not_not, true_imp_iff, false_imp_iff, and_true, true_and, Int.reduceEq, Int.reduceLT, Int.reduceLE, Int.reduceNeg, implies_true, Int.toNat_natCast]
  refine ⟨fun z => by omega, fun _ => ⟨fun z => by omega, fun _ => ?_⟩⟩
  rw [show Int.toNat 1 = 1 from rfl, hr2 (KK c n a 1) (by omega) p1.1 (by omega)]
  refine ⟨iI_in (by omega) (by omega) (by omega), iI_in (by omega) (by omega) (by omega), ?_⟩
  refine call_i (fun Q q => t_G_step hc (r := 2) (a := a) hf hn hnc hn1 hb1 (by omega) p1.1 p1.2.2 (fun q z1 z2 z3 => hr1 q (by omega) z2) q) ?_
  have e2 : KK c n a 2 = KK c n a 1 + nxk c n a (KK c n a 1) 2 := rfl
  rw [← e2]
  refine lp_n (fun m z => z.1 = iI (cI (KK c n a (m + 2) < n) ((KK c n a (m + 2) : Nat) : Int) (-1)) ∧ z.2.1 = iI ((m : Int) + 2) ∧ m + 2 ≤ fN c n a ∧ ∀ j, j < m + 2 → z.2.2 j = iI ((KK c n a j : Nat) : Int)) (fN c n a) ⟨0, by omega, rfl, rfl, by omega, ?_⟩ ?_
  · intro j hj
    show upd (upd fp 0 _) 1 _ j = _
    rcases (by omega : j = 0 ∨ j = 1) with rfl | rfl
    · rw [upd_f _ _ (by omega), upd_t]; rfl
    · rw [upd_t]
  rintro m ⟨x, y, fp'⟩ back hm ⟨h1, h2, h3, h4⟩ hback
  have h1 : x = _ := h1; have h2 : y = _ := h2; subst h1; subst h2
  have h4 : ∀ j, j < m + 2 → fp' j = iI ((KK c n a j : Nat) : Int) := h4
  simp only [wp_G_follow_L33b, iI_lit, iI_neg, iI_add, iI_sub, iI_mul, iI_nI, iI_ofNat, iI_lt, iI_le, iI_eq, iI_cl, bI_0, bI_1, forall_eq, forall_eq_apply_imp_iff, not_true_eq_false, not_false_eq_true, ne_eq, Classical.not_not, true_imp_iff, false_imp_iff, and_true, true_and, Int.reduceEq, Int.reduceLT, Int.reduceLE, Int.reduceNeg, implies_true]
  by_cases e : m + 2 = fN c n a
  · rw [e, s1, cI_f (by omega)]
    have := g fp' (fun j hj => h4 j (by omega))
    rw [← e, show (((m + 2 : Nat) : Int)) = (m : Int) + 2 by omega] at this
    simp only [iI_lit, iI_neg, iI_add, iI_sub, iI_mul, iI_nI, iI_ofNat, iI_lt, iI_le, iI_eq, iI_cl, bI_0, bI_1, forall_eq, forall_eq_apply_imp_iff, not_true_eq_false, not_false_eq_true, ne_eq, Classical.not_not, true_imp_iff, false_imp_iff, and_true, true_and, Int.reduceEq, Int.reduceLT, Int.reduceLE, Int.reduceNeg, implies_true]
    exact this
  · have q := s2 (m + 2) (by omega)
    rw [cI_t q.1]
    simp (disch := omega) only [iI_lit, iI_neg, iI_add, iI_sub, iI_mul, iI_nI, iI_ofNat, iI_lt, iI_le, iI_eq, iI_cl, bI_0, bI_1, forall_eq, forall_eq_apply_imp_iff, not_true_eq_false, not_false_eq_true, ne_eq, Classical.not_not, true_imp_iff, false_imp_iff, and_true, true_and, Int.reduceEq, Int.reduceLT, Int.reduceLE, Int.reduceNeg, implies_true, Int.toNat_natCast]
    refine ⟨fun z => by omega, fun _ => ⟨fun z => by omega, fun _ => ?_⟩⟩
    rw [hr1 (KK c n a (m + 2)) (by omega) q.1, show ((m : Int) + 2).toNat = m + 2 by omega]
    refine ⟨iI_in (by omega) (by omega) (by omega), iI_in (by omega) (by omega) (by omega), ?_⟩
    have hgg : gg c n a (3 - (m + 2)) (KK c n a (m + 2)) = gg c n a 1 (KK c n a (m + 2)) := by
      by_cases em : m = 0
      · subst em; rfl
      · rw [show 3 - (m + 2) = 0 by omega]; exact gg_01 c (by omega)
    rw [← hgg]
    refine call_i (fun Q q' => t_G_step hc (r := 3 - (m + 2)) (a := a) hf hn hnc hn1 hb1 (by omega) q.1 q.2.2 (fun q z1 z2 z3 => ?_) q') ?_
    · rw [hr1 q (by omega) z2, show 3 - (m + 2) - 1 = 0 by omega, gg_01 c (by omega)]
    · have e3 : KK c n a (m + 3) = KK c n a (m + 2) + nxk c n a (KK c n a (m + 2)) (3 - (m + 2)) := rfl
      rw [← e3]
      refine hback _ (by omega) ⟨rfl, by show iI _ = iI _; congr 1, by omega, fun j hj => ?_⟩
      show upd fp' _ _ j = _
      by_cases ej : j = m + 2
      · rw [ej, upd_t]
      · rw [upd_f _ _ ej]; exact h4 j (by omega)
