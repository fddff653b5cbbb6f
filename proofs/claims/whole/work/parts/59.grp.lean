-- the fewest curves
def oAD (J : Nat → Nat → Int) (N i m : Nat) : Prop := 1 ≤ m ∧ m ≤ 6 ∧ i + m ≤ N ∧ (m = 1 ∨ J i m ≠ 0)
noncomputable def oGq (J : Nat → Nat → Int) (N : Nat) : Nat → Int
  | 0 => 0
  | d + 1 => lo (fun j => cI (oAD J N (N - (d + 1)) (j + 1) ∧ j ≤ d) (oGq J N (d - j) + 1) 1073741824) 6
  termination_by d => d
noncomputable def gr (J : Nat → Nat → Int) (N i : Nat) : Int := oGq J N (N - i)
noncomputable def gtm (J : Nat → Nat → Int) (N i j : Nat) : Int := cI (oAD J N i (j + 1)) (gr J N (i + j + 1) + 1) 1073741824
theorem gr_N (J : Nat → Nat → Int) (N : Nat) : gr J N N = 0 := by unfold gr; rw [Nat.sub_self, oGq]
theorem gr_eq (J : Nat → Nat → Int) {N i : Nat} (hi : i < N) : gr J N i = lo (gtm J N i) 6 := by
  unfold gr
  obtain ⟨d, hd⟩ : ∃ d, N - i = d + 1 := ⟨N - i - 1, by omega⟩
  rw [hd, oGq]
  refine lo_c (fun j _ => ?_)
  unfold gtm gr
  rw [show N - (d + 1) = i by omega, show N - (i + j + 1) = d - j by omega]
  exact cI_c ⟨fun h => h.1, fun h => ⟨h, by have := h.2.2.1; omega⟩⟩
theorem gr_b1 (J : Nat → Nat → Int) (N : Nat) (d : Nat) : ∀ i, i ≤ N → N - i = d → 0 ≤ gr J N i ∧ gr J N i ≤ (d : Int) := by
  induction d using Nat.strongRecOn with
  | ind d ih =>
    intro i hi hd
    by_cases e : i = N
    · subst e; rw [gr_N]; omega
    · rw [gr_eq J (show i < N by omega)]
      constructor
      · rcases lo_at (gtm J N i) 6 with h | ⟨j, h1, h2⟩
        · omega
        · rw [h2]
          unfold gtm
          refine cI_s (P := fun z => 0 ≤ z) (fun w => ?_) (fun _ => by omega)
          have := w.2.2.1
          have := ih (N - (i + j + 1)) (by omega) (i + j + 1) (by omega) rfl
          omega
      · have h1 := lo_le (f := gtm J N i) (m := 6) (j := 0) (by omega)
        have h2 : gtm J N i 0 = gr J N (i + 1) + 1 := cI_t ⟨by omega, by omega, by omega, Or.inl rfl⟩
        have := ih (N - (i + 1)) (by omega) (i + 1) (by omega) rfl
        omega
theorem gr_b (J : Nat → Nat → Int) {N i : Nat} (hi : i ≤ N) : 0 ≤ gr J N i ∧ gr J N i ≤ (N : Int) := by
  have := gr_b1 J N (N - i) i hi rfl
  omega
theorem gr_le {J : Nat → Nat → Int} {N i m : Nat} (h : oAD J N i m) : gr J N i ≤ gr J N (i + m) + 1 := by
  have h1 := h.1; have h2 := h.2.1; have h3 := h.2.2.1
  rw [gr_eq J (show i < N by omega)]
  have h4 := lo_le (f := gtm J N i) (m := 6) (j := m - 1) (by omega)
  have h5 : gtm J N i (m - 1) = gr J N (i + m) + 1 := by
    unfold gtm
    rw [show m - 1 + 1 = m by omega, show i + (m - 1) + 1 = i + m by omega, cI_t h]
  omega
theorem gr_at {J : Nat → Nat → Int} {N i : Nat} (hi : i < N) (hN : N ≤ 100000) : ∃ m, oAD J N i m ∧ gr J N i = gr J N (i + m) + 1 := by
  have hb := gr_b J (show i ≤ N by omega)
  rcases lo_at (gtm J N i) 6 with h | ⟨j, h1, h2⟩
  · rw [gr_eq J hi] at hb; omega
  · by_cases e : oAD J N i (j + 1)
    · refine ⟨j + 1, e, ?_⟩
      rw [gr_eq J hi, h2]
      unfold gtm
      rw [cI_t e]; rfl
    · rw [gr_eq J hi, h2] at hb
      unfold gtm at hb
      rw [cI_f e] at hb; omega
def GL (J : Nat → Nat → Int) (N i m : Nat) : Prop := oAD J N i m ∧ gr J N i = gr J N (i + m) + 1 ∧ ∀ m', m < m' → oAD J N i m' → gr J N i ≠ gr J N (i + m') + 1
theorem GL_ex {J : Nat → Nat → Int} {N i : Nat} (hi : i < N) (hN : N ≤ 100000) : ∃ m, GL J N i m := by
  obtain ⟨m0, h1, h2⟩ := gr_at (J := J) hi hN
  have := mu_s (P := fun t => oAD J N i (6 - t) ∧ gr J N i = gr J N (i + (6 - t)) + 1) ⟨6 - m0, by have := h1.2.1; rw [show 6 - (6 - m0) = m0 by omega]; exact ⟨h1, h2⟩⟩
  refine ⟨_, this.1.1, this.1.2, fun m' hm ha e => ?_⟩
  have := this.2 (6 - m') (by have := ha.2.1; omega)
  rw [show 6 - (6 - m') = m' by have := ha.2.1; omega] at this
  exact this ⟨ha, e⟩
noncomputable def gm (J : Nat → Nat → Int) (N i : Nat) : Nat := mu (GL J N i)
theorem GL_u {J : Nat → Nat → Int} {N i m m' : Nat} (h : GL J N i m) (h' : GL J N i m') : m = m' := by
  rcases Nat.lt_trichotomy m m' with e | e | e
  · exact absurd h'.2.1 (h.2.2 m' e h'.1)
  · exact e
  · exact absurd h.2.1 (h'.2.2 m e h.1)
theorem gm_s {J : Nat → Nat → Int} {N i : Nat} (hi : i < N) (hN : N ≤ 100000) : GL J N i (gm J N i) := (mu_s (GL_ex hi hN)).1
theorem gm_u {J : Nat → Nat → Int} {N i m : Nat} (h : GL J N i m) (hi : i < N) (hN : N ≤ 100000) : gm J N i = m := GL_u (gm_s hi hN) h
theorem gm_b {J : Nat → Nat → Int} {N i : Nat} (hi : i < N) (hN : N ≤ 100000) : 1 ≤ gm J N i ∧ gm J N i ≤ 6 ∧ i + gm J N i ≤ N := by
  have h := (gm_s (J := J) hi hN).1
  exact ⟨h.1, h.2.1, h.2.2.1⟩
noncomputable def cs (J : Nat → Nat → Int) (N : Nat) : Nat → Nat
  | 0 => 0
  | j + 1 => cs J N j + gm J N (cs J N j)
theorem cs_s {J : Nat → Nat → Int} {N : Nat} (hN : N ≤ 100000) {j : Nat} (h : cs J N j < N) (h' : j ≤ cs J N j) : j + 1 ≤ cs J N (j + 1) ∧ cs J N (j + 1) ≤ N := by
  have := gm_b (J := J) h hN
  simp only [cs]; omega
theorem cs_b {J : Nat → Nat → Int} {N : Nat} (hN : N ≤ 100000) {j : Nat} (h : ∀ i, i < j → cs J N i < N) : j ≤ cs J N j ∧ cs J N j ≤ N := by
  induction j with
  | zero => simp only [cs]; omega
  | succ j ih =>
    have := ih (fun i hi => h i (by omega))
    exact cs_s hN (h j (by omega)) this.1
theorem cs_ex (J : Nat → Nat → Int) {N : Nat} (hN : N ≤ 100000) : ∃ j, N ≤ cs J N j := by
  refine Classical.byContradiction (fun h => ?_)
  have h : ∀ j, cs J N j < N := fun j => Nat.lt_of_not_le (fun w => h ⟨j, w⟩)
  have := (cs_b hN (j := N) (fun i _ => h i)).1
  have := h N
  omega
noncomputable def nC (J : Nat → Nat → Int) (N : Nat) : Nat := mu (fun j => N ≤ cs J N j)
theorem nC_lt {J : Nat → Nat → Int} {N : Nat} (hN : N ≤ 100000) {i : Nat} (h : i < nC J N) : cs J N i < N := Nat.lt_of_not_le ((mu_s (cs_ex J hN)).2 i h)
theorem nC_b {J : Nat → Nat → Int} {N : Nat} (h1 : 1 ≤ N) (hN : N ≤ 100000) : 1 ≤ nC J N ∧ nC J N ≤ N := by
  have h := cs_b hN (j := nC J N) (fun i hi => nC_lt hN hi)
  have h2 : N ≤ cs J N (nC J N) := (mu_s (cs_ex J hN)).1
  refine ⟨?_, by omega⟩
  rcases Nat.eq_zero_or_pos (nC J N) with e | e
  · rw [e] at h2; simp only [cs] at h2; omega
  · exact e
theorem nC_u {J : Nat → Nat → Int} {N j : Nat} (h : N ≤ cs J N j) (h' : ∀ i, i < j → cs J N i < N) : nC J N = j := mu_u h (fun i hi w => by have := h' i hi; omega)
-- one row of curves
noncomputable def JJ (X Y : Nat → Int) (N : Nat) (sh e : Int) (i m : Nat) : Int := oJO X Y N sh e (bgn X Y N sh + i) m
noncomputable def pl (X Y : Nat → Int) (N : Nat) (sh e : Int) (i m : Nat) : Int := cI (m = 1) (sgl X Y N sh (bgn X Y N sh + i)) (JJ X Y N sh e i m)
noncomputable def vN (X Y : Nat → Int) (N : Nat) (sh e : Int) : Nat := nC (JJ X Y N sh e) N
noncomputable def vP (X Y : Nat → Int) (N : Nat) (sh e : Int) (j : Nat) : Nat := cs (JJ X Y N sh e) N j
noncomputable def vF (X Y : Nat → Int) (N : Nat) (sh e : Int) (j : Nat) : Nat := (bgn X Y N sh + vP X Y N sh e j) % N
noncomputable def vL (X Y : Nat → Int) (N : Nat) (sh e : Int) (j : Nat) : Nat := gm (JJ X Y N sh e) N (vP X Y N sh e j)
noncomputable def vU (X Y : Nat → Int) (N : Nat) (sh e : Int) (j : Nat) : Int := pl X Y N sh e (vP X Y N sh e j) (vL X Y N sh e j)
def VR (X Y : Nat → Int) (N : Nat) (sh e : Int) (n : Nat) (ff fl fp : Nat → Int32) : Prop := ∀ j, j < n → ff j = iI ((vF X Y N sh e j : Nat) : Int) ∧ fl j = iI ((vL X Y N sh e j : Nat) : Int) ∧ fp j = iI (vU X Y N sh e j)
theorem pl_b {X Y : Nat → Int} {N : Nat} (hG : PG X Y N) (sh e : Int) (i m : Nat) : 0 ≤ pl X Y N sh e i m ∧ pl X Y N sh e i m ≤ 64 := by
  have h1 := sgl_b hG sh (bgn X Y N sh + i)
  have h2 := oJO_b X Y N sh e (bgn X Y N sh + i) m
  unfold pl JJ
  exact cI_s (P := fun z => 0 ≤ z ∧ z ≤ 64) (fun _ => by omega) (fun _ => h2)
theorem vB {X Y : Nat → Int} {N : Nat} (hG : PG X Y N) (sh e : Int) {j : Nat} (hj : j < vN X Y N sh e) : vF X Y N sh e j < N ∧ (1 ≤ vL X Y N sh e j ∧ vL X Y N sh e j ≤ 6) ∧ (0 ≤ vU X Y N sh e j ∧ vU X Y N sh e j ≤ 64) := by
  have hN := hG.1
  have h1 : vP X Y N sh e j < N := nC_lt (by omega) hj
  have h2 := gm_b (J := JJ X Y N sh e) h1 (by omega)
  exact ⟨Nat.mod_lt _ (by omega), ⟨h2.1, h2.2.1⟩, pl_b hG sh e _ _⟩
theorem VR_upd {X Y : Nat → Int} {N : Nat} {sh e : Int} {n : Nat} {ff fl fp : Nat → Int32} (h : VR X Y N sh e n ff fl fp) {a b c : Int32} (ha : a = iI ((vF X Y N sh e n : Nat) : Int)) (hb : b = iI ((vL X Y N sh e n : Nat) : Int)) (hc : c = iI (vU X Y N sh e n)) : VR X Y N sh e (n + 1) (upd ff n a) (upd fl n b) (upd fp n c) := by
  intro j hj
  by_cases ej : j = n
  · subst ej; rw [upd_t, upd_t, upd_t]; exact ⟨ha, hb, hc⟩
  · rw [upd_f _ _ ej, upd_f _ _ ej, upd_f _ _ ej]; exact h j (by omega)
theorem t_C_choose {N S : Nat} {X Y : Nat → Int} (hG : PG X Y N) (hS : N ≤ S ∧ S < 10000) {fa ft fx fy fe hx hy tl tp : Nat → Int32} (ha : ∀ j, j < N → fa j = iI (ag X Y N j)) (ht : ∀ j, j < N → ft j = iI (tu X Y N j)) (hf : ∀ j, j < N → fx j = iI (X j) ∧ fy j = iI (Y j)) {i : Nat} (hi : i < N) {sh e : Int} (hs : 0 ≤ sh ∧ sh ≤ 65) (he : 0 ≤ e ∧ e ≤ 64)
    (hfe : ∀ j, i < j → j ≤ N → fe j = iI (gr (JJ X Y N sh e) N j)) {post : ((Nat → Int32) × (Nat → Int32) × (Nat → Int32) × (Nat → Int32) × (Nat → Int32)) → Prop}
    (g : ∀ a b tl' tp', (∀ j, j ≠ i → tl' j = tl j ∧ tp' j = tp j) → tl' i = iI ((gm (JJ X Y N sh e) N i : Nat) : Int) → tp' i = iI (pl X Y N sh e i (gm (JJ X Y N sh e) N i)) → post (upd fe i (iI (gr (JJ X Y N sh e) N i)), a, b, tl', tp')) :
    wp_C_choose S S (S + 1) S 4 S 4 S S (iI N) fa ft fe fx hx fy hy tl tp (iI i) (iI (((bgn X Y N sh + i) % N : Nat) : Int)) (iI sh) (iI e) post := by
  have hN := hG.1
  obtain ⟨J, hJ⟩ : ∃ J, J = JJ X Y N sh e := ⟨_, rfl⟩
  obtain ⟨f, hfd⟩ : ∃ f, f = (bgn X Y N sh + i) % N := ⟨_, rfl⟩
  have hflt : f < N := hfd ▸ Nat.mod_lt _ (by omega)
  have hJf : ∀ m, 1 ≤ m → J i m = oJO X Y N sh e f m := fun m hm => by rw [hJ, hfd, oJO_m hG sh e hm]; rfl
  have hpl : ∀ m, pl X Y N sh e i m = cI (m = 1) (sgl X Y N sh f) (J i m) := fun m => by rw [hJ, hfd, sgl_m hG]; rfl
  simp only [hpl] at g
  rw [← hfd]
  rw [← hJ] at g hfe
  clear hpl
  have hb := ag_b hG f
  have hb8 := td8 hb
  have main : wp_C_choose_J32 S S (S + 1) S 4 S 4 S S (iI N) fa ft fx fy fe hx hy tl tp (iI i) (iI f) (iI sh) (iI e) (iI (sgl X Y N sh f)) post := by
    have hsg := sgl_b hG sh f
    generalize sgl X Y N sh f = sg at *
    unfold wp_C_choose_J32
    refine ⟨fun r _ => ∃ L : Nat, r = iI L ∧ (1 ≤ L ∧ L ≤ 6 ∧ i + L ≤ N) ∧ (∀ m, 2 ≤ m → m ≤ 6 → i + m ≤ N → (m ≤ L ↔ JP X Y N sh f m)), t_C_joinable hG hS ha ht hi hflt hs (fun L h1 h2 => ⟨L, rfl, h1, h2⟩), ?_⟩
    rintro r ⟨L, hr, hL, hLm⟩
    subst hr
    have hno : ∀ m, L < m → ¬ oAD J N i m := fun m hm h => by
      have h1 := h.2.1; have h2 := h.2.2.1
      rcases h.2.2.2 with e1 | e1
      · omega
      · refine e1 ?_
        rw [hJf m (by omega)]
        exact cI_f (fun w => by have := (hLm m (by omega) h1 h2).2 w; omega)
    have hyes : ∀ m, 2 ≤ m → m ≤ L → J i m = LPu X Y N f m e := fun m h1 h2 => by
      rw [hJf m (by omega)]
      exact cI_t ((hLm m h1 (by omega) (by omega)).1 h2)
    clear hLm
    simp only [iI_lit, iI_neg, iI_add, iI_sub, iI_mul, iI_nI, iI_ofNat, iI_lt, iI_le, iI_eq, iI_cl, bI_0, bI_1, forall_eq, forall_eq_apply_imp_iff, not_true_eq_false, not_false_eq_true, ne_eq, Classical.not_not, true_imp_iff, false_imp_iff, and_true, true_and, Int.reduceEq, Int.reduceLT, Int.reduceLE, Int.reduceNeg, implies_true]
    refine lp_n (fun k z => z.2.1 = iI ((L - k : Nat) : Int) ∧ (∀ j, j ≠ i → z.2.2.2.2.1 j = tl j ∧ z.2.2.2.2.2 j = tp j) ∧ ((z.1 = iI 2147483647 ∧ ∀ m, L - k < m → ¬ oAD J N i m) ∨ ∃ q, L - k < q ∧ oAD J N i q ∧ z.1 = iI (gr J N (i + q) + 1) ∧ (∀ m, L - k < m → oAD J N i m → gr J N (i + q) ≤ gr J N (i + m)) ∧ (∀ m, q < m → oAD J N i m → gr J N (i + q) < gr J N (i + m)) ∧ z.2.2.2.2.1 i = iI q ∧ z.2.2.2.2.2 i = iI (cI (q = 1) sg (J i q)))) L ⟨0, by omega, rfl, fun j _ => ⟨rfl, rfl⟩, Or.inl ⟨rfl, fun m hm => hno m (by omega)⟩⟩ ?_
    rintro k ⟨le, ln, a, b, tl1, tp1⟩ back hk ⟨h1, h2, h3⟩ hback
    have h1 : ln = _ := h1; subst h1
    have h2 : ∀ j, j ≠ i → tl1 j = tl j ∧ tp1 j = tp j := h2
    have h3 : (le = iI 2147483647 ∧ ∀ m, L - k < m → ¬ oAD J N i m) ∨ ∃ q, L - k < q ∧ oAD J N i q ∧ le = iI (gr J N (i + q) + 1) ∧ (∀ m, L - k < m → oAD J N i m → gr J N (i + q) ≤ gr J N (i + m)) ∧ (∀ m, q < m → oAD J N i m → gr J N (i + q) < gr J N (i + m)) ∧ tl1 i = iI q ∧ tp1 i = iI (cI (q = 1) sg (J i q)) := h3
    obtain ⟨M, hM⟩ : ∃ M, M = L - k := ⟨_, rfl⟩
    have hback : ∀ z', M - 1 + (k + 1) = L → (z'.2.1 = iI ((M - 1 : Nat) : Int) ∧ (∀ j, j ≠ i → z'.2.2.2.2.1 j = tl j ∧ z'.2.2.2.2.2 j = tp j) ∧ ((z'.1 = iI 2147483647 ∧ ∀ m, M - 1 < m → ¬ oAD J N i m) ∨ ∃ q, M - 1 < q ∧ oAD J N i q ∧ z'.1 = iI (gr J N (i + q) + 1) ∧ (∀ m, M - 1 < m → oAD J N i m → gr J N (i + q) ≤ gr J N (i + m)) ∧ (∀ m, q < m → oAD J N i m → gr J N (i + q) < gr J N (i + m)) ∧ z'.2.2.2.2.1 i = iI q ∧ z'.2.2.2.2.2 i = iI (cI (q = 1) sg (J i q)))) → back z' := by
      intro z' hh hI
      refine hback z' (by omega) ?_
      rw [show L - (k + 1) = M - 1 by omega]
      exact hI
    rw [← hM] at h3 ⊢
    have hadm1 : oAD J N i 1 := ⟨by omega, by omega, by omega, Or.inl rfl⟩
    simp (disch := omega) only [wp_C_choose_L47, iI_lit, iI_neg, iI_add, iI_sub, iI_mul, iI_nI, iI_ofNat, iI_lt, iI_le, iI_eq, iI_cl, bI_0, bI_1, forall_eq, forall_eq_apply_imp_iff, not_true_eq_false, not_false_eq_true, ne_eq, Classical.not_not, true_imp_iff, false_imp_iff, and_true, true_and, Int.reduceEq, Int.reduceLT, Int.reduceLE, Int.reduceNeg, implies_true]
    refine ⟨fun z => ?_, fun z => ?_⟩
    · refine ⟨iI_in (by omega) (by omega) (by omega), ?_⟩
      rw [Int.toNat_natCast]
      rcases h3 with ⟨_, h4⟩ | ⟨q, q1, q2, q3, q4, q5, q6, q7⟩
      · exact absurd hadm1 (h4 1 (by omega))
      · obtain ⟨m0, ma, mb⟩ := gr_at (J := J) hi (by omega)
        have hq0 := gr_le q2
        have hq1 := q4 m0 (by have := ma.1; omega) ma
        have hgr : gr J N i = gr J N (i + q) + 1 := by omega
        have hgm : gm J N i = q := gm_u ⟨q2, hgr, fun m' hm' ha' => by have := q5 m' hm' ha'; omega⟩ hi (by omega)
        rw [q3, ← hgr]
        exact g a b tl1 tp1 h2 (by rw [hgm]; exact q6) (by rw [hgm]; exact q7)
    · have hgb := gr_b J (show i + M ≤ N by omega)
      rw [show ((i : Int) + (M : Int)).toNat = i + M by omega, hfe (i + M) (by omega) (by omega)]
      refine ⟨iI_in (by omega) (by omega) (by omega), ?_⟩
      simp only [iI_lit, iI_neg, iI_add, iI_sub, iI_mul, iI_nI, iI_ofNat, iI_lt, iI_le, iI_eq, iI_cl, bI_0, bI_1, forall_eq, forall_eq_apply_imp_iff, not_true_eq_false, not_false_eq_true, ne_eq, Classical.not_not, true_imp_iff, false_imp_iff, and_true, true_and, Int.reduceEq, Int.reduceLT, Int.reduceLE, Int.reduceNeg, implies_true]
      have hJM : M ≠ 1 → J i M = LPu X Y N f M e := fun w => hyes M (by omega) (by omega)
      -- the row stays
      have stay : ∀ a b, (le = iI 2147483647 → ¬ oAD J N i M) → (∀ q, le = iI (gr J N (i + q) + 1) → i + q ≤ N → oAD J N i M → gr J N (i + q) ≤ gr J N (i + M)) → back (le, iI ((M : Int) + -1), a, b, tl1, tp1) := by
        intro a b w1 w2
        refine hback _ (by omega) ⟨iI_e (by omega), h2, ?_⟩
        rcases h3 with ⟨h4, h5⟩ | ⟨q, q1, q2, q3, q4, q5, q6, q7⟩
        · refine Or.inl ⟨h4, fun m hm => ?_⟩
          by_cases em : m = M
          · rw [em]; exact w1 h4
          · exact h5 m (by omega)
        · refine Or.inr ⟨q, by omega, q2, q3, fun m hm ha => ?_, q5, q6, q7⟩
          by_cases em : m = M
          · rw [em]; exact w2 q q3 q2.2.2.1 (em ▸ ha)
          · exact q4 m (by omega) ha
      have take : ∀ a b v, oAD J N i M → v = cI (M = 1) sg (J i M) → (∀ q, le = iI (gr J N (i + q) + 1) → i + q ≤ N → gr J N (i + M) < gr J N (i + q)) → wp_C_choose_J105 S S (S + 1) S 4 S 4 S S (iI N) fa ft fx fy fe a b tl1 tp1 (iI i) (iI f) (iI e) (iI sg) (iI M) (iI (1 + gr J N (i + M))) (iI v) back post := by
        intro a b v w1 w2 w3
        simp (disch := omega) only [wp_C_choose_J105, wp_C_choose_J125, iI_lit, iI_neg, iI_add, iI_sub, iI_mul, iI_nI, iI_ofNat, iI_lt, iI_le, iI_eq, iI_cl, bI_0, bI_1, forall_eq, forall_eq_apply_imp_iff, not_true_eq_false, not_false_eq_true, ne_eq, Classical.not_not, true_imp_iff, false_imp_iff, and_true, true_and, Int.reduceEq, Int.reduceLT, Int.reduceLE, Int.reduceNeg, implies_true, Int.toNat_natCast]
        refine ⟨iI_in (by omega) (by omega) (by omega), iI_in (by omega) (by omega) (by omega), hback _ (by omega) ⟨iI_e (by omega), fun j hj => ?_, Or.inr ⟨M, by omega, w1, iI_e (by omega), fun m hm ha => ?_, fun m hm ha => ?_, upd_t _ _ _, ?_⟩⟩⟩
        · exact ⟨(upd_f _ _ hj).trans (h2 j hj).1, (upd_f _ _ hj).trans (h2 j hj).2⟩
        · by_cases em : m = M
          · rw [em]; omega
          · rcases h3 with ⟨h4, h5⟩ | ⟨q, q1, q2, q3, q4, q5, q6, q7⟩
            · exact absurd ha (h5 m (by omega))
            · have := q4 m (by omega) ha; have := w3 q q3 q2.2.2.1; omega
        · rcases h3 with ⟨h4, h5⟩ | ⟨q, q1, q2, q3, q4, q5, q6, q7⟩
          · exact absurd ha (h5 m (by omega))
          · have := q4 m (by omega) ha; have := w3 q q3 q2.2.2.1; omega
        · show upd tp1 i (iI v) i = _
          rw [upd_t, w2]
      have hle : ∀ q, i + q ≤ N → 0 ≤ gr J N (i + q) ∧ gr J N (i + q) ≤ 512 := fun q hq => by have := gr_b J hq; omega
      refine ⟨fun w => ?_, fun w => ?_⟩
      · simp only [wp_C_choose_J125, iI_lit, iI_neg, iI_add, iI_sub, iI_mul, iI_nI, iI_ofNat, iI_lt, iI_le, iI_eq, iI_cl, bI_0, bI_1, forall_eq, forall_eq_apply_imp_iff, not_true_eq_false, not_false_eq_true, ne_eq, Classical.not_not, true_imp_iff, false_imp_iff, and_true, true_and, Int.reduceEq, Int.reduceLT, Int.reduceLE, Int.reduceNeg, implies_true]
        refine stay a b (fun h => ?_) (fun q hq hqN _ => ?_)
        · rw [h, iI_le (by omega) (by omega) (by omega) (by omega)] at w; omega
        · have := hle q hqN
          rw [hq, iI_le (by omega) (by omega) (by omega) (by omega)] at w; omega
      · have w3 : ∀ q, le = iI (gr J N (i + q) + 1) → i + q ≤ N → gr J N (i + M) < gr J N (i + q) := fun q hq hqN => by
          have := hle q hqN
          rw [hq, iI_le (by omega) (by omega) (by omega) (by omega)] at w; omega
        refine ⟨fun w1 => ?_, fun w1 => ?_⟩
        · have hM1 : M ≠ 1 := by omega
          refine ⟨fun r _ => r = iI (LPu X Y N f M e), t_C_leastPull hG hS hf hflt (by omega) he (fun _ _ => rfl), ?_⟩
          rintro r u0 u1 hr
          have hr : r = _ := hr; subst hr
          have hlb := LPu_b X Y N f M e
          simp (disch := omega) only [wp_C_choose_J92, wp_C_choose_J125, iI_lit, iI_neg, iI_add, iI_sub, iI_mul, iI_nI, iI_ofNat, iI_lt, iI_le, iI_eq, iI_cl, bI_0, bI_1, forall_eq, forall_eq_apply_imp_iff, not_true_eq_false, not_false_eq_true, ne_eq, Classical.not_not, true_imp_iff, false_imp_iff, and_true, true_and, Int.reduceEq, Int.reduceLT, Int.reduceLE, Int.reduceNeg, implies_true]
          refine ⟨fun w4 => absurd w4 w1, fun _ => ⟨fun w5 => ?_, fun w5 => ?_⟩⟩
          · have hnot : ¬ oAD J N i M := fun h => by
              rcases h.2.2.2 with e1 | e1
              · exact hM1 e1
              · rw [hJM hM1] at e1; omega
            exact stay u0 u1 (fun _ => hnot) (fun _ _ _ h => absurd h hnot)
          · exact take u0 u1 _ ⟨by omega, by omega, by omega, Or.inr (by rw [hJM hM1]; omega)⟩ (by rw [cI_f hM1, hJM hM1]) w3
        · obtain rfl : M = 1 := by omega
          simp (disch := omega) only [wp_C_choose_J92, wp_C_choose_J125, iI_lit, iI_neg, iI_add, iI_sub, iI_mul, iI_nI, iI_ofNat, iI_lt, iI_le, iI_eq, iI_cl, bI_0, bI_1, forall_eq, forall_eq_apply_imp_iff, not_true_eq_false, not_false_eq_true, ne_eq, Classical.not_not, true_imp_iff, false_imp_iff, and_true, true_and, Int.reduceEq, Int.reduceLT, Int.reduceLE, Int.reduceNeg, implies_true]
          exact ⟨fun _ => take a b _ hadm1 (cI_t rfl).symm w3, fun h => absurd rfl h⟩
  unfold wp_C_choose
  simp (disch := omega) only [iI_lit, iI_neg, iI_add, iI_sub, iI_mul, iI_nI, iI_ofNat, iI_lt, iI_le, iI_eq, iI_cl, bI_0, bI_1, forall_eq, forall_eq_apply_imp_iff, not_true_eq_false, not_false_eq_true, ne_eq, Classical.not_not, true_imp_iff, false_imp_iff, and_true, true_and, Int.reduceEq, Int.reduceLT, Int.reduceLE, Int.reduceNeg, implies_true, Int.toNat_natCast]
  refine ⟨iI_in (by omega) (by omega) (by omega), ?_⟩
  rw [ha f hflt]
  simp (disch := omega) only [iI_lit, iI_neg, iI_add, iI_sub, iI_mul, iI_nI, iI_ofNat, iI_lt, iI_le, iI_eq, iI_cl, bI_0, bI_1, forall_eq, forall_eq_apply_imp_iff, not_true_eq_false, not_false_eq_true, ne_eq, Classical.not_not, true_imp_iff, false_imp_iff, and_true, true_and, Int.reduceEq, Int.reduceLT, Int.reduceLE, Int.reduceNeg, implies_true, iI_div]
  refine ⟨fun w => ⟨iI_in (by omega) (by omega) (by omega), ?_⟩, fun w => ?_⟩
  · rwa [show sgl X Y N sh f = 8 + (ag X Y N f).tdiv 8 from cI_f (by omega)] at main
  · rwa [show sgl X Y N sh f = 0 from cI_t (by omega)] at main
