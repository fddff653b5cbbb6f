-- joined corners
theorem kl_1 : (1 : Int32) = iI 1 := iI_lit 1
theorem kl_2 : (2 : Int32) = iI 2 := iI_lit 2
theorem kl_3 : (3 : Int32) = iI 3 := iI_lit 3
theorem kl_4 : (4 : Int32) = iI 4 := iI_lit 4
theorem kl_7 : (7 : Int32) = iI 7 := iI_lit 7
theorem kl_8 : (8 : Int32) = iI 8 := iI_lit 8
theorem kl_10 : (10 : Int32) = iI 10 := iI_lit 10
theorem kl_24 : (24 : Int32) = iI 24 := iI_lit 24
theorem kl_64 : (64 : Int32) = iI 64 := iI_lit 64
theorem kl_65 : (65 : Int32) = iI 65 := iI_lit 65
theorem kl_256 : (256 : Int32) = iI 256 := iI_lit 256
theorem kl_max : (2147483647 : Int32) = iI 2147483647 := iI_lit 2147483647
theorem iI_e {a b : Int} (h : a = b) : iI a = iI b := by rw [h]
theorem per {X : Nat → Int} {N : Nat} (h : ∀ j, X (j % N) = X j) (f c : Nat) : X (f % N + c) = X (f + c) := by
  rw [← h (f % N + c), Nat.mod_add_mod, h]
theorem hnd_m {X : Nat → Int} {N : Nat} (h : ∀ j, X (j % N) = X j) (hN : 1 ≤ N) {f m : Nat} (hm : 1 ≤ m) (p : Int) : hnd X N (f % N) m p = hnd X N f m p := by
  funext i
  have a1 : X (f % N + N - 1) = X (f + N - 1) := by
    have := per h f (N - 1)
    rwa [show f % N + (N - 1) = f % N + N - 1 by omega, show f + (N - 1) = f + N - 1 by omega] at this
  have a3 : X (f % N + m - 1) = X (f + m - 1) := by
    have := per h f (m - 1)
    rwa [show f % N + (m - 1) = f % N + m - 1 by omega, show f + (m - 1) = f + m - 1 by omega] at this
  have a4 := per h f m
  unfold hnd
  rw [a1, a3, a4, h f]
theorem NLp_m {X Y : Nat → Int} {N : Nat} (hG : PG X Y N) (x y e : Int) (f k : Nat) : NLp x y X Y (f % N + N - 1 + k) e = NLp x y X Y (f + N - 1 + k) e := by
  have hN := hG.1
  have hx : ∀ j, X (j % N) = X j := fun j => (hG.2.2 j).1
  have hy : ∀ j, Y (j % N) = Y j := fun j => (hG.2.2 j).2
  have e1 : f % N + N - 1 + k = f % N + (N - 1 + k) := by omega
  have e2 : f + N - 1 + k = f + (N - 1 + k) := by omega
  have a1 := per hx f (N - 1 + k)
  have a2 : X (f % N + (N - 1 + k) + 1) = X (f + (N - 1 + k) + 1) := per hx f (N - 1 + k + 1)
  have b1 := per hy f (N - 1 + k)
  have b2 : Y (f % N + (N - 1 + k) + 1) = Y (f + (N - 1 + k) + 1) := per hy f (N - 1 + k + 1)
  rw [e1, e2]
  unfold NLp nlA nlV nlL nlW nlC
  rw [a1, a2, b1, b2]
theorem NRl_m {X Y : Nat → Int} {N : Nat} (hG : PG X Y N) (x y e : Int) (f m : Nat) : NRl X Y N (f % N) m x y e = NRl X Y N f m x y e := by
  unfold NRl NRx
  simp only [NLp_m hG]
theorem FT_m {X Y : Nat → Int} {N : Nat} (hG : PG X Y N) {f m : Nat} (hm : 1 ≤ m) (p e : Int) : FT X Y N (f % N) m p e = FT X Y N f m p e := by
  have hN := hG.1
  unfold FT
  simp only [NRl_m hG, hnd_m (fun j => (hG.2.2 j).1) (show 1 ≤ N by omega) hm, hnd_m (fun j => (hG.2.2 j).2) (show 1 ≤ N by omega) hm]
theorem LPu_m {X Y : Nat → Int} {N : Nat} (hG : PG X Y N) {f m : Nat} (hm : 1 ≤ m) (e : Int) : LPu X Y N (f % N) m e = LPu X Y N f m e := by
  unfold LPu
  simp only [FT_m hG hm]
def JP (X Y : Nat → Int) (N : Nat) (sh : Int) (f m : Nat) : Prop := tu X Y N f ≠ 0 ∧ ∀ j, j < m → ag X Y N (f + j) < sh ∧ tu X Y N (f + j) = tu X Y N f
theorem ag_p {X Y : Nat → Int} {N : Nat} (hG : PG X Y N) (f c : Nat) : ag X Y N (f % N + c) = ag X Y N (f + c) ∧ tu X Y N (f % N + c) = tu X Y N (f + c) := by
  have a := ag_m hG (f % N + c); have b := ag_m hG (f + c)
  rw [Nat.mod_add_mod] at a
  exact ⟨by rw [← a.1, b.1], by rw [← a.2, b.2]⟩
theorem JP_m {X Y : Nat → Int} {N : Nat} (hG : PG X Y N) (sh : Int) (f m : Nat) : JP X Y N sh (f % N) m = JP X Y N sh f m := by
  unfold JP
  simp only [(ag_p hG f _).1, (ag_p hG f _).2, (ag_m hG f).2]
noncomputable def oJO (X Y : Nat → Int) (N : Nat) (sh e : Int) (f m : Nat) : Int := cI (JP X Y N sh f m) (LPu X Y N f m e) 0
theorem oJO_m {X Y : Nat → Int} {N : Nat} (hG : PG X Y N) (sh e : Int) {f m : Nat} (hm : 1 ≤ m) : oJO X Y N sh e (f % N) m = oJO X Y N sh e f m := by
  unfold oJO
  rw [JP_m hG, LPu_m hG hm]
theorem oJO_b (X Y : Nat → Int) (N : Nat) (sh e : Int) (f m : Nat) : 0 ≤ oJO X Y N sh e f m ∧ oJO X Y N sh e f m ≤ 64 := by
  unfold oJO
  exact cI_s (P := fun z => 0 ≤ z ∧ z ≤ 64) (fun _ => LPu_b X Y N f m e) (fun _ => by omega)
noncomputable def sgl (X Y : Nat → Int) (N : Nat) (sh : Int) (f : Nat) : Int := cI (sh ≤ ag X Y N f) 0 (8 + (ag X Y N f).tdiv 8)
theorem sgl_m {X Y : Nat → Int} {N : Nat} (hG : PG X Y N) (sh : Int) (f : Nat) : sgl X Y N sh (f % N) = sgl X Y N sh f := by
  unfold sgl; rw [(ag_m hG f).1]
theorem td8 {a : Int} (h : 0 ≤ a ∧ a ≤ 64) : 0 ≤ a.tdiv 8 ∧ a.tdiv 8 ≤ 8 := by
  rw [Int.tdiv_eq_ediv_of_nonneg h.1]; omega
theorem sgl_b {X Y : Nat → Int} {N : Nat} (hG : PG X Y N) (sh : Int) (f : Nat) : 0 ≤ sgl X Y N sh f ∧ sgl X Y N sh f ≤ 16 := by
  have := td8 (ag_b hG f)
  unfold sgl
  exact cI_s (P := fun z => 0 ≤ z ∧ z ≤ 16) (fun _ => by omega) (fun _ => by omega)
theorem t_M_isSharp {N : Nat} {X Y : Nat → Int} {of : Int32} {fk ff fs fx fy : Nat → Int32} (hG : PG X Y N) (hX : CRX N X of fk ff fs fx) (hY : CRY N Y of fk ff fs fy) {k : Nat} (hk : k < 10000) {sh : Int} (hs : 0 ≤ sh ∧ sh ≤ 65) {post : Int32 → Unit → Prop} (g : post (bI (sh ≤ ag X Y N k)) ()) : wp_M_isSharp 512 900 900 3600 3600 of (iI N) (iI sh) fk ff fs fx fy (iI k) post := by
  have hN := hG.1
  have e : ((k : Int).tmod (N : Int)) = ((k % N : Nat) : Int) := by rw [Int.tmod_eq_emod_of_nonneg (by omega)]; push_cast; rfl
  have hm : k % N < N := Nat.mod_lt _ (by omega)
  have hb := ag_b hG k
  unfold wp_M_isSharp
  simp (disch := omega) only [iI_lit, iI_neg, iI_add, iI_sub, iI_mul, iI_nI, iI_ofNat, iI_lt, iI_le, iI_eq, iI_cl, bI_0, bI_1, forall_eq, forall_eq_apply_imp_iff, not_true_eq_false, not_false_eq_true, ne_eq, Classical.not_not, true_imp_iff, false_imp_iff, and_true, true_and, Int.reduceEq, Int.reduceLT, Int.reduceLE, Int.reduceNeg, implies_true, iI_rem, e]
  refine ⟨by omega, ?_⟩
  refine call_i (fun Q q => t_M_angleAt hG hX hY (by omega) q) ?_
  rw [(ag_m hG k).1]
  simp (disch := omega) only [iI_lit, iI_neg, iI_add, iI_sub, iI_mul, iI_nI, iI_ofNat, iI_lt, iI_le, iI_eq, iI_cl, bI_0, bI_1, forall_eq, forall_eq_apply_imp_iff, not_true_eq_false, not_false_eq_true, ne_eq, Classical.not_not, true_imp_iff, false_imp_iff, and_true, true_and, Int.reduceEq, Int.reduceLT, Int.reduceLE, Int.reduceNeg, implies_true]
  refine ⟨fun w => ?_, fun w => ?_⟩
  · rwa [bI_f (by omega)] at g
  · rwa [bI_t (by omega)] at g
theorem t_M_joined {N : Nat} {X Y : Nat → Int} {of : Int32} {fk ff fs fx fy px py : Nat → Int32} (hG : PG X Y N) (hX : CRX N X of fk ff fs fx) (hY : CRY N Y of fk ff fs fy) {f m : Nat} (hf : f < 5000) (hm : 2 ≤ m ∧ m ≤ 6) {sh e : Int} (hs : 0 ≤ sh ∧ sh ≤ 65) (he : 0 ≤ e ∧ e ≤ 64) {post : Int32 → ((Nat → Int32) × (Nat → Int32)) → Prop} (g : ∀ a b, post (iI (oJO X Y N sh e f m)) (a, b)) : wp_M_joined 512 900 900 3600 3600 4 4 of (iI N) (iI sh) (iI e) fk ff fs fx fy px py (iI f) (iI m) post := by
  have hN := hG.1
  have hb := tu_b X Y N f
  have e1 : ((f : Int).tmod (N : Int)) = ((f % N : Nat) : Int) := by rw [Int.tmod_eq_emod_of_nonneg (by omega)]; push_cast; rfl
  have hlt : f % N < N := Nat.mod_lt _ (by omega)
  have main : wp_M_joined_J20 512 900 900 3600 3600 4 4 of (iI N) (iI sh) (iI e) fk ff fs fx fy px py (iI f) (iI m) (iI (tu X Y N f)) (bI (tu X Y N f ≠ 0)) post := by
    unfold wp_M_joined_J20
    refine lp_n (fun k z => z.1 = bI (tu X Y N f ≠ 0 ∧ ∀ j, j < k → ag X Y N (f + j) < sh ∧ tu X Y N (f + j) = tu X Y N f) ∧ z.2 = iI ((f + k : Nat) : Int)) m ⟨0, by omega, bI_c ⟨fun h => ⟨h, fun j hj => absurd hj (Nat.not_lt_zero j)⟩, fun h => h.1⟩, rfl⟩ ?_
    rintro k ⟨a, b⟩ back hk ⟨h1, h2⟩ hback
    have h1 : a = _ := h1; have h2 : b = _ := h2; subst h1; subst h2
    have e2 : (((f + k : Nat) : Int).tmod (N : Int)) = (((f + k) % N : Nat) : Int) := by rw [Int.tmod_eq_emod_of_nonneg (by omega)]; push_cast; rfl
    have hlt2 : (f + k) % N < N := Nat.mod_lt _ (by omega)
    have hb2 := tu_b X Y N (f + k)
    simp (disch := omega) only [wp_M_joined_L25, wp_M_joined_J66, wp_M_joined_J67, iI_lit, iI_neg, iI_add, iI_sub, iI_mul, iI_nI, iI_ofNat, iI_lt, iI_le, iI_eq, iI_cl, bI_0, bI_1, forall_eq, forall_eq_apply_imp_iff, not_true_eq_false, not_false_eq_true, ne_eq, Classical.not_not, true_imp_iff, false_imp_iff, and_true, true_and, Int.reduceEq, Int.reduceLT, Int.reduceLE, Int.reduceNeg, implies_true, iI_rem, e2]
    refine ⟨fun z => ?_, fun z => ?_⟩
    · obtain rfl : k = m := by omega
      refine lp_n (fun i z => z.1 = iI ((i + 1 : Nat) : Int) ∧ ∀ p : Nat, 1 ≤ p → p < i + 1 → ¬ FT X Y N f k p e) 64 ⟨0, by omega, rfl, fun p h1 h2 => by omega⟩ ?_
      rintro i ⟨a, px1, py1⟩ back2 hi ⟨h1, h2⟩ hback2
      have h1 : a = _ := h1; subst h1
      simp (disch := omega) only [wp_M_joined_L78, iI_lit, iI_neg, iI_add, iI_sub, iI_mul, iI_nI, iI_ofNat, iI_lt, iI_le, iI_eq, iI_cl, bI_0, bI_1, forall_eq, forall_eq_apply_imp_iff, not_true_eq_false, not_false_eq_true, ne_eq, Classical.not_not, true_imp_iff, false_imp_iff, and_true, true_and, Int.reduceEq, Int.reduceLT, Int.reduceLE, Int.reduceNeg, implies_true]
      refine ⟨fun z2 => ?_, fun z2 => ⟨fun w => ?_, fun w => ?_⟩⟩
      · obtain rfl : i = 64 := by omega
        have g := g px1 py1
        have e0 : oJO X Y N sh e f k = 0 := by
          unfold oJO
          exact cI_s (P := fun z => z = 0) (fun _ => LPu_none (fun p p1 p2 => h2 p p1 (by omega))) (fun _ => rfl)
        rwa [e0] at g
      · have g := g px1 py1
        have e0 : oJO X Y N sh e f k = 0 := cI_f (p := JP X Y N sh f k) w
        rwa [e0] at g
      · refine ⟨fun r _ => r = bI (FT X Y N f k ((i + 1 : Nat) : Int) e), t_M_fits hG hX hY hf (by omega) (by omega) he (fun a b => rfl), ?_⟩
        rintro r u0 u1 hr
        have hr : r = _ := hr; subst hr
        simp (disch := omega) only [iI_lit, iI_neg, iI_add, iI_sub, iI_mul, iI_nI, iI_ofNat, iI_lt, iI_le, iI_eq, iI_cl, bI_0, bI_1, forall_eq, forall_eq_apply_imp_iff, not_true_eq_false, not_false_eq_true, ne_eq, Classical.not_not, true_imp_iff, false_imp_iff, and_true, true_and, Int.reduceEq, Int.reduceLT, Int.reduceLE, Int.reduceNeg, implies_true]
        refine ⟨fun w2 => hback2 _ (by omega) ⟨iI_e (by omega), fun p p1 p2 => ?_⟩, fun w2 => ?_⟩
        · by_cases ep : p = i + 1
          · rw [ep]; exact w2
          · exact h2 p p1 (by omega)
        · have g := g u0 u1
          have e0 : oJO X Y N sh e f k = ((i + 1 : Nat) : Int) := by
            unfold oJO
            rw [cI_t (p := JP X Y N sh f k) w]
            exact LPu_at (by omega) (by omega) w2 h2
          rwa [e0] at g
    · have yes : (tu X Y N f ≠ 0 ∧ ∀ j, j < k + 1 → ag X Y N (f + j) < sh ∧ tu X Y N (f + j) = tu X Y N f) → back (iI 1, iI (((f + k : Nat) : Int) + 1)) := fun w => hback _ (by omega) ⟨(bI_t w).symm, iI_e (by omega)⟩
      have no : ¬ (tu X Y N f ≠ 0 ∧ ∀ j, j < k + 1 → ag X Y N (f + j) < sh ∧ tu X Y N (f + j) = tu X Y N f) → back (iI 0, iI (((f + k : Nat) : Int) + 1)) := fun w => hback _ (by omega) ⟨(bI_f w).symm, iI_e (by omega)⟩
      refine ⟨fun w => no (fun h => w ⟨h.1, fun j hj => h.2 j (by omega)⟩), fun w => ?_⟩
      refine call_i (fun Q q => t_M_isSharp hG hX hY (by omega) hs q) ?_
      simp (disch := omega) only [iI_lit, iI_neg, iI_add, iI_sub, iI_mul, iI_nI, iI_ofNat, iI_lt, iI_le, iI_eq, iI_cl, bI_0, bI_1, forall_eq, forall_eq_apply_imp_iff, not_true_eq_false, not_false_eq_true, ne_eq, Classical.not_not, true_imp_iff, false_imp_iff, and_true, true_and, Int.reduceEq, Int.reduceLT, Int.reduceLE, Int.reduceNeg, implies_true]
      refine ⟨fun w2 => no (fun h => by have := (h.2 k (by omega)).1; omega), fun w2 => ⟨by omega, ?_⟩⟩
      refine call_i (fun Q q => t_M_turnAt hG hX hY (by omega) q) ?_
      rw [(ag_m hG (f + k)).2]
      simp (disch := omega) only [iI_lit, iI_neg, iI_add, iI_sub, iI_mul, iI_nI, iI_ofNat, iI_lt, iI_le, iI_eq, iI_cl, bI_0, bI_1, forall_eq, forall_eq_apply_imp_iff, not_true_eq_false, not_false_eq_true, ne_eq, Classical.not_not, true_imp_iff, false_imp_iff, and_true, true_and, Int.reduceEq, Int.reduceLT, Int.reduceLE, Int.reduceNeg, implies_true]
      refine ⟨fun w3 => no (fun h => w3 (h.2 k (by omega)).2), fun w3 => yes ⟨w.1, fun j hj => ?_⟩⟩
      by_cases ej : j = k
      · subst ej; exact ⟨by omega, w3⟩
      · exact w.2 j (by omega)
  unfold wp_M_joined
  simp (disch := omega) only [iI_lit, iI_neg, iI_add, iI_sub, iI_mul, iI_nI, iI_ofNat, iI_lt, iI_le, iI_eq, iI_cl, bI_0, bI_1, forall_eq, forall_eq_apply_imp_iff, not_true_eq_false, not_false_eq_true, ne_eq, Classical.not_not, true_imp_iff, false_imp_iff, and_true, true_and, Int.reduceEq, Int.reduceLT, Int.reduceLE, Int.reduceNeg, implies_true, iI_rem, e1]
  refine ⟨by omega, ?_⟩
  refine call_i (fun Q q => t_M_turnAt hG hX hY (by omega) q) ?_
  rw [(ag_m hG f).2]
  simp (disch := omega) only [iI_lit, iI_neg, iI_add, iI_sub, iI_mul, iI_nI, iI_ofNat, iI_lt, iI_le, iI_eq, iI_cl, bI_0, bI_1, forall_eq, forall_eq_apply_imp_iff, not_true_eq_false, not_false_eq_true, ne_eq, Classical.not_not, true_imp_iff, false_imp_iff, and_true, true_and, Int.reduceEq, Int.reduceLT, Int.reduceLE, Int.reduceNeg, implies_true]
  refine ⟨fun w => ?_, fun w => ?_⟩
  · rwa [bI_f (by omega)] at main
  · rwa [bI_t w] at main
noncomputable def bgn (X Y : Nat → Int) (N : Nat) (sh : Int) : Nat := cI (∃ k, k < N ∧ sh ≤ ag X Y N k) (mu (fun k => k < N ∧ sh ≤ ag X Y N k)) 0
theorem bgn_at {X Y : Nat → Int} {N : Nat} {sh : Int} {k : Nat} (hk : k < N) (h : sh ≤ ag X Y N k) (h' : ∀ j, j < k → ag X Y N j < sh) : bgn X Y N sh = k := by
  unfold bgn
  rw [cI_t ⟨k, hk, h⟩]
  exact mu_u ⟨hk, h⟩ (fun j hj w => by have := h' j hj; have := w.2; omega)
theorem bgn_none {X Y : Nat → Int} {N : Nat} {sh : Int} (h : ∀ j, j < N → ag X Y N j < sh) : bgn X Y N sh = 0 := cI_f (fun ⟨k, k1, k2⟩ => by have := h k k1; omega)
theorem bgn_lt (X Y : Nat → Int) {N : Nat} (sh : Int) (hN : 1 ≤ N) : bgn X Y N sh < N := by
  unfold bgn
  exact cI_s (P := fun z => z < N) (fun w => (mu_s w).1.1) (fun _ => by omega)
theorem t_C_firstSharp {N S : Nat} {X Y : Nat → Int} (hG : PG X Y N) (hS : N ≤ S ∧ S < 10000) {fa : Nat → Int32} (ha : ∀ j, j < N → fa j = iI (ag X Y N j)) {sh : Int} (hs : 0 ≤ sh ∧ sh ≤ 65) {post : Int32 → Unit → Prop} (g : post (iI ((bgn X Y N sh : Nat) : Int)) ()) : wp_C_firstSharp S (iI N) fa (iI sh) post := by
  have hN := hG.1
  unfold wp_C_firstSharp
  simp only [iI_lit, iI_neg, iI_add, iI_sub, iI_mul, iI_nI, iI_ofNat, iI_lt, iI_le, iI_eq, iI_cl, bI_0, bI_1, forall_eq, forall_eq_apply_imp_iff, not_true_eq_false, not_false_eq_true, ne_eq, Classical.not_not, true_imp_iff, false_imp_iff, and_true, true_and, Int.reduceEq, Int.reduceLT, Int.reduceLE, Int.reduceNeg, implies_true]
  refine lp_n (fun k z => z = iI k ∧ ∀ j, j < k → ag X Y N j < sh) N ⟨0, by omega, rfl, fun j hj => absurd hj (Nat.not_lt_zero j)⟩ ?_
  rintro k z back hk ⟨h1, h2⟩ hback
  have h1 : z = _ := h1; subst h1
  simp (disch := omega) only [wp_C_firstSharp_L2, iI_lit, iI_neg, iI_add, iI_sub, iI_mul, iI_nI, iI_ofNat, iI_lt, iI_le, iI_eq, iI_cl, bI_0, bI_1, forall_eq, forall_eq_apply_imp_iff, not_true_eq_false, not_false_eq_true, ne_eq, Classical.not_not, true_imp_iff, false_imp_iff, and_true, true_and, Int.reduceEq, Int.reduceLT, Int.reduceLE, Int.reduceNeg, implies_true, Int.toNat_natCast]
  refine ⟨fun z => ?_, fun z => ⟨iI_in (by omega) (by omega) (by omega), ?_⟩⟩
  · obtain rfl : k = N := by omega
    rwa [bgn_none h2] at g
  · have hb := ag_b hG k
    rw [ha k (by omega)]
    simp (disch := omega) only [iI_lit, iI_neg, iI_add, iI_sub, iI_mul, iI_nI, iI_ofNat, iI_lt, iI_le, iI_eq, iI_cl, bI_0, bI_1, forall_eq, forall_eq_apply_imp_iff, not_true_eq_false, not_false_eq_true, ne_eq, Classical.not_not, true_imp_iff, false_imp_iff, and_true, true_and, Int.reduceEq, Int.reduceLT, Int.reduceLE, Int.reduceNeg, implies_true]
    refine ⟨fun w => hback _ (by omega) ⟨iI_e (by omega), fun j hj => ?_⟩, fun w => ?_⟩
    · by_cases ej : j = k
      · subst ej; exact w
      · exact h2 j (by omega)
    · rwa [bgn_at (by omega) (by omega) h2] at g
theorem t_C_joinable {N S : Nat} {X Y : Nat → Int} (hG : PG X Y N) (hS : N ≤ S ∧ S < 10000) {fa ft : Nat → Int32} (ha : ∀ j, j < N → fa j = iI (ag X Y N j)) (ht : ∀ j, j < N → ft j = iI (tu X Y N j)) {i f : Nat} (hi : i < N) (hf : f < N) {sh : Int} (hs : 0 ≤ sh ∧ sh ≤ 65) {post : Int32 → Unit → Prop}
    (g : ∀ L : Nat, (1 ≤ L ∧ L ≤ 6 ∧ i + L ≤ N) → (∀ m, 2 ≤ m → m ≤ 6 → i + m ≤ N → (m ≤ L ↔ JP X Y N sh f m)) → post (iI L) ()) : wp_C_joinable S S (iI N) ft fa (iI i) (iI f) (iI sh) post := by
  have hN := hG.1
  have hb := ag_b hG f
  have hb2 := tu_b X Y N f
  unfold wp_C_joinable
  simp (disch := omega) only [iI_lit, iI_neg, iI_add, iI_sub, iI_mul, iI_nI, iI_ofNat, iI_lt, iI_le, iI_eq, iI_cl, bI_0, bI_1, forall_eq, forall_eq_apply_imp_iff, not_true_eq_false, not_false_eq_true, ne_eq, Classical.not_not, true_imp_iff, false_imp_iff, and_true, true_and, Int.reduceEq, Int.reduceLT, Int.reduceLE, Int.reduceNeg, implies_true, Int.toNat_natCast]
  refine ⟨iI_in (by omega) (by omega) (by omega), ?_⟩
  rw [ht f hf, ha f hf]
  simp (disch := omega) only [iI_lit, iI_neg, iI_add, iI_sub, iI_mul, iI_nI, iI_ofNat, iI_lt, iI_le, iI_eq, iI_cl, bI_0, bI_1, forall_eq, forall_eq_apply_imp_iff, not_true_eq_false, not_false_eq_true, ne_eq, Classical.not_not, true_imp_iff, false_imp_iff, and_true, true_and, Int.reduceEq, Int.reduceLT, Int.reduceLE, Int.reduceNeg, implies_true]
  refine ⟨fun w => g 1 (by omega) (fun m m1 m2 m3 => ⟨fun h => by omega, fun h => absurd w h.1⟩), fun w => ⟨iI_in (by omega) (by omega) (by omega), fun w2 => ?_, fun w2 => g 1 (by omega) (fun m m1 m2 m3 => ⟨fun h => by omega, fun h => ?_⟩)⟩⟩
  rotate_left
  · have := (h.2 0 (by omega)).1
    rw [Nat.add_zero] at this; omega
  rw [jmin_i (by omega) (by omega) (by omega) (by omega)]
  obtain ⟨M, hM⟩ : ∃ M : Nat, (M : Int) = min 6 ((N : Int) - i) := ⟨min 6 (N - i), by omega⟩
  rw [← hM]
  refine lp_n (fun k z => z = iI ((k + 1 : Nat) : Int) ∧ k + 1 ≤ M ∧ ∀ j, j < k + 1 → ag X Y N (f + j) < sh ∧ tu X Y N (f + j) = tu X Y N f) 6 ⟨0, by omega, rfl, by omega, fun j hj => ?_⟩ ?_
  · obtain rfl : j = 0 := by omega
    exact ⟨w2, rfl⟩
  rintro k z back hk ⟨h1, h2, h3⟩ hback
  have h1 : z = _ := h1; subst h1
  simp (disch := omega) only [wp_C_joinable_L50, iI_lit, iI_neg, iI_add, iI_sub, iI_mul, iI_nI, iI_ofNat, iI_lt, iI_le, iI_eq, iI_cl, bI_0, bI_1, forall_eq, forall_eq_apply_imp_iff, not_true_eq_false, not_false_eq_true, ne_eq, Classical.not_not, true_imp_iff, false_imp_iff, and_true, true_and, Int.reduceEq, Int.reduceLT, Int.reduceLE, Int.reduceNeg, implies_true]
  refine ⟨fun q => ?_, fun q => ?_⟩
  · exact g M (by omega) (fun m m1 m2 m3 => ⟨fun h => ⟨w, fun j hj => h3 j (by omega)⟩, fun _ => by omega⟩)
  · have hlt : (f + (k + 1)) % N < N := Nat.mod_lt _ (by omega)
    have hb3 := ag_b hG (f + (k + 1))
    have hb4 := tu_b X Y N (f + (k + 1))
    refine call_i (fun Q q => t_G_beside (by omega) (by omega) q) ?_
    rw [mod_n f N (k' := f + (k + 1)) ((k + 1 : Nat) : Int) 0 (by omega)]
    simp (disch := omega) only [iI_lit, iI_neg, iI_add, iI_sub, iI_mul, iI_nI, iI_ofNat, iI_lt, iI_le, iI_eq, iI_cl, bI_0, bI_1, forall_eq, forall_eq_apply_imp_iff, not_true_eq_false, not_false_eq_true, ne_eq, Classical.not_not, true_imp_iff, false_imp_iff, and_true, true_and, Int.reduceEq, Int.reduceLT, Int.reduceLE, Int.reduceNeg, implies_true, Int.toNat_natCast]
    refine ⟨iI_in (by omega) (by omega) (by omega), ?_⟩
    rw [ht _ hlt, ha _ hlt, (ag_m hG _).1, (ag_m hG _).2]
    simp (disch := omega) only [iI_lit, iI_neg, iI_add, iI_sub, iI_mul, iI_nI, iI_ofNat, iI_lt, iI_le, iI_eq, iI_cl, bI_0, bI_1, forall_eq, forall_eq_apply_imp_iff, not_true_eq_false, not_false_eq_true, ne_eq, Classical.not_not, true_imp_iff, false_imp_iff, and_true, true_and, Int.reduceEq, Int.reduceLT, Int.reduceLE, Int.reduceNeg, implies_true]
    have stop : ¬ (ag X Y N (f + (k + 1)) < sh ∧ tu X Y N (f + (k + 1)) = tu X Y N f) → post (iI ((k + 1 : Nat) : Int)) () := fun v => g (k + 1) (by omega) (fun m m1 m2 m3 => ⟨fun h => ⟨w, fun j hj => h3 j (by omega)⟩, fun h => Classical.byContradiction (fun u => v (h.2 (k + 1) (by omega)))⟩)
    refine ⟨fun v => stop (fun u => v u.2), fun v => ⟨iI_in (by omega) (by omega) (by omega), fun v2 => hback _ (by omega) ⟨iI_e (by omega), by omega, fun j hj => ?_⟩, fun v2 => stop (fun u => v2 u.1)⟩⟩
    by_cases ej : j = k + 1
    · subst ej; exact ⟨v2, v⟩
    · exact h3 j (by omega)
