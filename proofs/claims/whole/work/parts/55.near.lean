-- longs
theorem lI_exists : ∃ f : Int → Int64, f = Int64.ofInt := ⟨_, rfl⟩
noncomputable def lI : Int → Int64 := Classical.choose lI_exists
theorem lI_d (z : Int) : lI z = Int64.ofInt z := congrFun (Classical.choose_spec lI_exists) z
theorem lI_add (a b : Int) : lI a + lI b = lI (a + b) := by simp only [lI_d]; exact (Int64.ofInt_add a b).symm
theorem lI_sub (a b : Int) : lI a - lI b = lI (a - b) := by simp only [lI_d]; exact (Int64.ofInt_sub a b).symm
theorem lI_mul (a b : Int) : lI a * lI b = lI (a * b) := by simp only [lI_d]; exact (Int64.ofInt_mul a b).symm
theorem lI_lit (n : Nat) : (OfNat.ofNat n : Int64) = lI (OfNat.ofNat n : Int) := by
  rw [lI_d]
  show Int64.ofNat n = _
  exact Int64.ofInt_eq_ofNat.symm
theorem lI_i {a : Int} (h : -2147483648 ≤ a) (h' : a < 2147483648) : (iI a).toInt64 = lI a := by
  rw [iI_d, lI_d]
  exact Int32.toInt64_ofInt (by show (-2147483648 : Int) ≤ a; exact h) (by show a ≤ 2147483647; omega)
-- near a line: from corner j to the next; e is the reach
def nlA (x y : Int) (X Y : Nat → Int) (j : Nat) : Int := (x - 16384 * X j) * (X (j + 1) - X j) + (y - 16384 * Y j) * (Y (j + 1) - Y j)
def nlL (X Y : Nat → Int) (j : Nat) : Int := (X (j + 1) - X j) * (X (j + 1) - X j) + (Y (j + 1) - Y j) * (Y (j + 1) - Y j)
def nlC (x y : Int) (X Y : Nat → Int) (j : Nat) : Int := (x - 16384 * X j) * (Y (j + 1) - Y j) - (y - 16384 * Y j) * (X (j + 1) - X j)
def nlV (x y : Int) (X Y : Nat → Int) (j : Nat) : Int := (x - 16384 * X j) * (x - 16384 * X j) + (y - 16384 * Y j) * (y - 16384 * Y j)
def nlW (x y : Int) (X Y : Nat → Int) (j : Nat) : Int := (x - 16384 * X j - 16384 * (X (j + 1) - X j)) * (x - 16384 * X j - 16384 * (X (j + 1) - X j)) + (y - 16384 * Y j - 16384 * (Y (j + 1) - Y j)) * (y - 16384 * Y j - 16384 * (Y (j + 1) - Y j))
def NLp (x y : Int) (X Y : Nat → Int) (j : Nat) (e : Int) : Prop :=
  (¬ 0 < lg_cmp (lI (nlA x y X Y j)) (lI 0) ∧ ¬ 0 < lg_cmp (lI (nlV x y X Y j)) (lI (512 * e * (512 * e)))) ∨
  (0 < lg_cmp (lI (nlA x y X Y j)) (lI 0) ∧ ¬ lg_cmp (lI (nlA x y X Y j)) (lI (16384 * nlL X Y j)) < 0 ∧ ¬ 0 < lg_cmp (lI (nlW x y X Y j)) (lI (512 * e * (512 * e)))) ∨
  (0 < lg_cmp (lI (nlA x y X Y j)) (lI 0) ∧ lg_cmp (lI (nlA x y X Y j)) (lI (16384 * nlL X Y j)) < 0 ∧ ¬ 0 < lg_cmp (lI (nlC x y X Y j * nlC x y X Y j)) (lI (512 * e * (512 * e) * nlL X Y j)))
theorem i32_nlt (a b : Int32) : (¬ a < b) ↔ b ≤ a := by rw [Int32.lt_iff_toInt_lt, Int32.le_iff_toInt_le]; omega
theorem i32_nle (a b : Int32) : (¬ a ≤ b) ↔ b < a := by rw [Int32.lt_iff_toInt_lt, Int32.le_iff_toInt_le]; omega
-- the reference reads corners
def CRX (N : Nat) (X : Nat → Int) (of : Int32) (fk ff fs fx : Nat → Int32) : Prop := ∀ k : Nat, k < 100000 → ∀ Q : Int32 → Unit → Prop, Q (iI (X k)) () → wp_M_cornerX 512 900 900 3600 of (iI N) fk ff fs fx (iI k) Q
def CRY (N : Nat) (Y : Nat → Int) (of : Int32) (fk ff fs fy : Nat → Int32) : Prop := ∀ k : Nat, k < 100000 → ∀ Q : Int32 → Unit → Prop, Q (iI (Y k)) () → wp_M_cornerY 512 900 900 3600 of (iI N) fk ff fs fy (iI k) Q
theorem CRX_of {W H : Nat} {T : TS} {cc pp : Int32} {ff fs fl fa fx fy : Nat → Int32} (hT : TB W H 7 T) (hR : RM T cc pp ff fs fl fa fx fy) {o : Nat} (ho : o < T.1) {K : Nat → Nat} {N : Nat} (hN : 3 ≤ N ∧ N ≤ 512) {fk : Nat → Int32} (hk : ∀ j, j < N → fk j = iI ((K j : Nat) : Int) ∧ K j < nn T o) : CRX N (pX T o K N) (iI o) fk ff fs fx ∧ CRY N (pY T o K N) (iI o) fk ff fs fy := by
  have h1 := TB_o hT ho
  constructor
  · intro k hkb Q q
    have e : ((k : Int).tmod (N : Int)) = ((k % N : Nat) : Int) := by rw [Int.tmod_eq_emod_of_nonneg (by omega)]; push_cast; rfl
    have hm : k % N < N := Nat.mod_lt _ (by omega)
    have hkm := hk _ hm
    unfold wp_M_cornerX
    simp (disch := omega) only [iI_lit, iI_neg, iI_add, iI_sub, iI_mul, iI_nI, iI_ofNat, iI_lt, iI_le, iI_eq, iI_cl, bI_0, bI_1, forall_eq, forall_eq_apply_imp_iff, not_true_eq_false, not_false_eq_true, ne_eq, Classical.not_not, true_imp_iff, false_imp_iff, and_true, true_and, Int.reduceEq, Int.reduceLT, Int.reduceLE, Int.reduceNeg, implies_true, iI_rem, e, Int.toNat_natCast]
    refine ⟨by omega, iI_in (by omega) (by omega) (by omega), ?_⟩
    rw [hkm.1]
    exact call_i (fun Q q => t_M_xAt hT hR ho (by omega) q) q
  · intro k hkb Q q
    have e : ((k : Int).tmod (N : Int)) = ((k % N : Nat) : Int) := by rw [Int.tmod_eq_emod_of_nonneg (by omega)]; push_cast; rfl
    have hm : k % N < N := Nat.mod_lt _ (by omega)
    have hkm := hk _ hm
    unfold wp_M_cornerY
    simp (disch := omega) only [iI_lit, iI_neg, iI_add, iI_sub, iI_mul, iI_nI, iI_ofNat, iI_lt, iI_le, iI_eq, iI_cl, bI_0, bI_1, forall_eq, forall_eq_apply_imp_iff, not_true_eq_false, not_false_eq_true, ne_eq, Classical.not_not, true_imp_iff, false_imp_iff, and_true, true_and, Int.reduceEq, Int.reduceLT, Int.reduceLE, Int.reduceNeg, implies_true, iI_rem, e, Int.toNat_natCast]
    refine ⟨by omega, iI_in (by omega) (by omega) (by omega), ?_⟩
    rw [hkm.1]
    exact call_i (fun Q q => t_M_yAt hT hR ho (by omega) q) q
theorem t_M_crossAt {N : Nat} {X Y : Nat → Int} {of : Int32} {fk ff fs fx fy : Nat → Int32} (hG : PG X Y N) (hX : CRX N X of fk ff fs fx) (hY : CRY N Y of fk ff fs fy) {k : Nat} (hk : k < 10000) {post : Int32 → Unit → Prop} (g : post (iI (cr X Y N k)) ()) : wp_M_crossAt 512 900 900 3600 3600 of (iI N) fk ff fs fx fy (iI k) post := by
  have hN := hG.1
  unfold wp_M_crossAt
  simp only [iI_lit, iI_neg, iI_add, iI_sub, iI_mul, iI_nI, iI_ofNat, iI_lt, iI_le, iI_eq, iI_cl, bI_0, bI_1, forall_eq, forall_eq_apply_imp_iff, not_true_eq_false, not_false_eq_true, ne_eq, Classical.not_not, true_imp_iff, false_imp_iff, and_true, true_and, Int.reduceEq, Int.reduceLT, Int.reduceLE, Int.reduceNeg, implies_true]
  rw [show (k : Int) + N - 1 = ((k + N - 1 : Nat) : Int) by omega, show (k : Int) + 1 = ((k + 1 : Nat) : Int) by omega]
  refine call_i (hX k (by omega)) ?_
  refine call_i (hX (k + N - 1) (by omega)) ?_
  refine call_i (hY k (by omega)) ?_
  refine call_i (hY (k + N - 1) (by omega)) ?_
  refine call_i (hX (k + 1) (by omega)) ?_
  refine call_i (hX k (by omega)) ?_
  refine call_i (hY (k + 1) (by omega)) ?_
  refine call_i (hY k (by omega)) ?_
  simp only [iI_lit, iI_neg, iI_add, iI_sub, iI_mul, iI_nI, iI_ofNat, iI_lt, iI_le, iI_eq, iI_cl, bI_0, bI_1, forall_eq, forall_eq_apply_imp_iff, not_true_eq_false, not_false_eq_true, ne_eq, Classical.not_not, true_imp_iff, false_imp_iff, and_true, true_and, Int.reduceEq, Int.reduceLT, Int.reduceLE, Int.reduceNeg, implies_true]
  exact g
theorem t_M_angleAt {N : Nat} {X Y : Nat → Int} {of : Int32} {fk ff fs fx fy : Nat → Int32} (hG : PG X Y N) (hX : CRX N X of fk ff fs fx) (hY : CRY N Y of fk ff fs fy) {k : Nat} (hk : k < 10000) {post : Int32 → Unit → Prop} (g : post (iI (ag X Y N k)) ()) : wp_M_angleAt 512 900 900 3600 3600 of (iI N) fk ff fs fx fy (iI k) post := by
  have hN := hG.1
  have hb := cr_b hG k
  unfold wp_M_angleAt
  simp only [iI_lit, iI_neg, iI_add, iI_sub, iI_mul, iI_nI, iI_ofNat, iI_lt, iI_le, iI_eq, iI_cl, bI_0, bI_1, forall_eq, forall_eq_apply_imp_iff, not_true_eq_false, not_false_eq_true, ne_eq, Classical.not_not, true_imp_iff, false_imp_iff, and_true, true_and, Int.reduceEq, Int.reduceLT, Int.reduceLE, Int.reduceNeg, implies_true]
  rw [show (k : Int) + N - 1 = ((k + N - 1 : Nat) : Int) by omega, show (k : Int) + 1 = ((k + 1 : Nat) : Int) by omega]
  refine call_i (hX k (by omega)) ?_
  refine call_i (hX (k + N - 1) (by omega)) ?_
  refine call_i (hX (k + 1) (by omega)) ?_
  refine call_i (hX k (by omega)) ?_
  refine call_i (hY k (by omega)) ?_
  refine call_i (hY (k + N - 1) (by omega)) ?_
  refine call_i (hY (k + 1) (by omega)) ?_
  refine call_i (hY k (by omega)) ?_
  simp only [iI_lit, iI_neg, iI_add, iI_sub, iI_mul, iI_nI, iI_ofNat, iI_lt, iI_le, iI_eq, iI_cl, bI_0, bI_1, forall_eq, forall_eq_apply_imp_iff, not_true_eq_false, not_false_eq_true, ne_eq, Classical.not_not, true_imp_iff, false_imp_iff, and_true, true_and, Int.reduceEq, Int.reduceLT, Int.reduceLE, Int.reduceNeg, implies_true]
  rw [show (X k - X (k + N - 1)) * (X (k + 1) - X k) + (Y k - Y (k + N - 1)) * (Y (k + 1) - Y k) = inn X Y N k from rfl]
  simp (disch := omega) only [iI_lit, iI_neg, iI_add, iI_sub, iI_mul, iI_nI, iI_ofNat, iI_lt, iI_le, iI_eq, iI_cl, bI_0, bI_1, forall_eq, forall_eq_apply_imp_iff, not_true_eq_false, not_false_eq_true, ne_eq, Classical.not_not, true_imp_iff, false_imp_iff, and_true, true_and, Int.reduceEq, Int.reduceLT, Int.reduceLE, Int.reduceNeg, implies_true]
  unfold ag at g
  refine ⟨fun z => ?_, fun z => ?_⟩
  · rw [cI_f (by omega)] at g
    have hd := dv_b (a := 16 * ((cr X Y N k).natAbs : Int)) (b := inn X Y N k) (by omega) (by omega)
    refine call_i (fun Q q => t_M_crossAt hG hX hY hk q) ?_
    refine call_i (fun Q q => t_M_size (by omega) q) ?_
    refine ⟨by omega, ?_⟩
    simp (disch := omega) only [iI_lit, iI_neg, iI_add, iI_sub, iI_mul, iI_nI, iI_ofNat, iI_lt, iI_le, iI_eq, iI_cl, bI_0, bI_1, forall_eq, forall_eq_apply_imp_iff, not_true_eq_false, not_false_eq_true, ne_eq, Classical.not_not, true_imp_iff, false_imp_iff, and_true, true_and, Int.reduceEq, Int.reduceLT, Int.reduceLE, Int.reduceNeg, implies_true, iI_div]
    refine ⟨fun w => ?_, fun w => ?_⟩
    · rwa [show min 63 ((16 * ((cr X Y N k).natAbs : Int)).tdiv (inn X Y N k)) = (16 * ((cr X Y N k).natAbs : Int)).tdiv (inn X Y N k) by omega] at g
    · rwa [show min 63 ((16 * ((cr X Y N k).natAbs : Int)).tdiv (inn X Y N k)) = 63 by omega] at g
  · rwa [cI_t (by omega)] at g
theorem t_M_turnAt {N : Nat} {X Y : Nat → Int} {of : Int32} {fk ff fs fx fy : Nat → Int32} (hG : PG X Y N) (hX : CRX N X of fk ff fs fx) (hY : CRY N Y of fk ff fs fy) {k : Nat} (hk : k < 10000) {post : Int32 → Unit → Prop} (g : post (iI (tu X Y N k)) ()) : wp_M_turnAt 512 900 900 3600 3600 of (iI N) fk ff fs fx fy (iI k) post := by
  have hb := cr_b hG k
  unfold wp_M_turnAt
  refine call_i (fun Q q => t_M_crossAt hG hX hY hk q) ?_
  simp (disch := omega) only [iI_lit, iI_neg, iI_add, iI_sub, iI_mul, iI_nI, iI_ofNat, iI_lt, iI_le, iI_eq, iI_cl, bI_0, bI_1, forall_eq, forall_eq_apply_imp_iff, not_true_eq_false, not_false_eq_true, ne_eq, Classical.not_not, true_imp_iff, false_imp_iff, and_true, true_and, Int.reduceEq, Int.reduceLT, Int.reduceLE, Int.reduceNeg, implies_true]
  unfold tu at g
  refine ⟨fun z => ⟨fun z2 => ?_, fun z2 => ?_⟩, fun z => ?_⟩
  · rwa [cI_f (by omega), cI_f (by omega)] at g
  · rwa [cI_f (by omega), cI_t (by omega)] at g
  · rwa [cI_t (by omega)] at g
theorem t_M_isNearLine {N : Nat} {X Y : Nat → Int} {of : Int32} {fk ff fs fx fy : Nat → Int32} (hG : PG X Y N) (hX : CRX N X of fk ff fs fx) (hY : CRY N Y of fk ff fs fy) {j : Nat} (hj : j < 10000) {x y e : Int} (he : 0 ≤ e ∧ e ≤ 64) {post : Int32 → Unit → Prop} (g : post (bI (NLp x y X Y j e)) ()) : wp_M_isNearLine 512 900 900 3600 3600 of (iI N) fk ff fs fx fy (lI x) (lI y) (iI j) (iI e) post := by
  have q1 := hG.2.1 j; have q2 := hG.2.1 (j + 1)
  unfold wp_M_isNearLine
  simp only [iI_lit, iI_add, forall_eq]
  rw [show (j : Int) + 1 = ((j + 1 : Nat) : Int) by omega]
  refine call_i (hX j (by omega)) ?_
  refine call_i (hY j (by omega)) ?_
  refine call_i (hX (j + 1) (by omega)) ?_
  refine call_i (hX j (by omega)) ?_
  refine call_i (hY (j + 1) (by omega)) ?_
  refine call_i (hY j (by omega)) ?_
  simp (disch := omega) only [iI_sub, lI_i, lI_lit, lI_mul, lI_add, lI_sub]
  rw [show (x - 16384 * X j) * (X (j + 1) - X j) + (y - 16384 * Y j) * (Y (j + 1) - Y j) = nlA x y X Y j from rfl, show (X (j + 1) - X j) * (X (j + 1) - X j) + (Y (j + 1) - Y j) * (Y (j + 1) - Y j) = nlL X Y j from rfl, show (x - 16384 * X j) * (Y (j + 1) - Y j) - (y - 16384 * Y j) * (X (j + 1) - X j) = nlC x y X Y j from rfl, show (x - 16384 * X j) * (x - 16384 * X j) + (y - 16384 * Y j) * (y - 16384 * Y j) = nlV x y X Y j from rfl, show (x - 16384 * X j - 16384 * (X (j + 1) - X j)) * (x - 16384 * X j - 16384 * (X (j + 1) - X j)) + (y - 16384 * Y j - 16384 * (Y (j + 1) - Y j)) * (y - 16384 * Y j - 16384 * (Y (j + 1) - Y j)) = nlW x y X Y j from rfl, show nlL X Y j * 16384 = 16384 * nlL X Y j from Int.mul_comm _ _]
  unfold NLp at g
  rw [iI_z] at g
  refine ⟨fun z => ⟨fun z2 => ⟨fun z3 => ?_, fun z3 => ?_⟩, fun z2 => ⟨fun z3 => ?_, fun z3 => ?_⟩⟩, fun z => ⟨fun z3 => ?_, fun z3 => ?_⟩⟩
  · rwa [bI_f (by rintro (w | w | w); exact w.1 z; exact w.2.1 z2; exact w.2.2 z3)] at g
  · rwa [bI_t (Or.inr (Or.inr ⟨z, z2, z3⟩))] at g
  · rwa [bI_f (by rintro (w | w | w); exact w.1 z; exact w.2.2 z3; exact z2 w.2.1)] at g
  · rwa [bI_t (Or.inr (Or.inl ⟨z, z2, z3⟩))] at g
  · rwa [bI_f (by rintro (w | w | w); exact w.2 z3; exact z w.1; exact z w.1)] at g
  · rwa [bI_t (Or.inl ⟨z, z3⟩)] at g
theorem t_C_nearLine {N S : Nat} {X Y : Nat → Int} {fx fy : Nat → Int32} (hG : PG X Y N) (hS : N ≤ S ∧ S < 10000) (hf : ∀ j, j < N → fx j = iI (X j) ∧ fy j = iI (Y j)) (j : Nat) {x y e : Int} (hx : (-2147483648 ≤ x ∧ x < 2147483648)) (hy : (-2147483648 ≤ y ∧ y < 2147483648)) {post : Int32 → Unit → Prop} (g : post (bI (NLp x y X Y j e)) ()) : wp_C_nearLine S S fx fy (iI x) (iI y) (iI ((j % N : Nat) : Int)) (iI (((j + 1) % N : Nat) : Int)) (lI (512 * e)) post := by
  have hN := hG.1
  have q1 := hG.2.1 j; have q2 := hG.2.1 (j + 1)
  have m1 : j % N < N := Nat.mod_lt _ (by omega)
  have m2 : (j + 1) % N < N := Nat.mod_lt _ (by omega)
  unfold wp_C_nearLine wp_C_nearLine_J165 wp_C_nearLine_J194
  simp (disch := omega) only [iI_cl, Int.toNat_natCast]
  rw [(hf _ m1).1, (hf _ m1).2, (hf _ m2).1, (hf _ m2).2, (hG.2.2 j).1, (hG.2.2 j).2, (hG.2.2 (j + 1)).1, (hG.2.2 (j + 1)).2]
  simp (disch := omega) only [iI_sub, lI_i, lI_lit, lI_mul, lI_add, lI_sub, forall_eq]
  rw [show (x - 16384 * X j) * (X (j + 1) - X j) + (y - 16384 * Y j) * (Y (j + 1) - Y j) = nlA x y X Y j from rfl, show (X (j + 1) - X j) * (X (j + 1) - X j) + (Y (j + 1) - Y j) * (Y (j + 1) - Y j) = nlL X Y j from rfl, show (x - 16384 * X j) * (Y (j + 1) - Y j) - (y - 16384 * Y j) * (X (j + 1) - X j) = nlC x y X Y j from rfl, show (x - 16384 * X j) * (x - 16384 * X j) + (y - 16384 * Y j) * (y - 16384 * Y j) = nlV x y X Y j from rfl, show (x - 16384 * X j - 16384 * (X (j + 1) - X j)) * (x - 16384 * X j - 16384 * (X (j + 1) - X j)) + (y - 16384 * Y j - 16384 * (Y (j + 1) - Y j)) * (y - 16384 * Y j - 16384 * (Y (j + 1) - Y j)) = nlW x y X Y j from rfl]
  have i1 : vp_in (iI ((j % N : Nat) : Int)) S := iI_in (by omega) (by omega) (by omega)
  have i2 : vp_in (iI (((j + 1) % N : Nat) : Int)) S := iI_in (by omega) (by omega) (by omega)
  simp only [i32_nle, i32_nlt]
  unfold NLp at g
  refine ⟨i2, i1, i2, i1, i1, i1, fun z => ⟨fun _ => ⟨fun z3 => ?_, fun z3 => ?_⟩, fun z2 => absurd z2 ((i32_nlt _ _).2 z)⟩, fun z => ⟨fun z2 => ⟨fun z3 => absurd z ((i32_nlt _ _).2 z3), fun _ => ⟨fun z3 => ?_, fun z3 => ?_⟩⟩, fun z2 => ⟨fun z3 => ?_, fun z3 => ?_⟩⟩⟩
  · rwa [bI_f (by rintro (w | w | w); exact w.2 z3; exact absurd w.1 ((i32_nlt _ _).2 z); exact absurd w.1 ((i32_nlt _ _).2 z)), ← iI_z] at g
  · rwa [bI_t (Or.inl ⟨(i32_nlt _ _).2 z, (i32_nlt _ _).2 z3⟩), ← iI_lit 1] at g
  · rwa [bI_f (by rintro (w | w | w); exact w.1 z; exact w.2.2 z3; exact absurd w.2.1 ((i32_nlt _ _).2 z2)), ← iI_z] at g
  · rwa [bI_t (Or.inr (Or.inl ⟨z, (i32_nlt _ _).2 z2, (i32_nlt _ _).2 z3⟩)), ← iI_lit 1] at g
  · rwa [bI_f (by rintro (w | w | w); exact w.1 z; exact w.2.1 z2; exact w.2.2 z3), ← iI_z] at g
  · rwa [bI_t (Or.inr (Or.inr ⟨z, z2, (i32_nlt _ _).2 z3⟩)), ← iI_lit 1] at g
