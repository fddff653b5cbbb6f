-- the cost of a piece
def crs (T : TS) (o i k j : Nat) : Int := (qX T o (i + k) - qX T o i) * (qY T o (i + j) - qY T o i) - (qY T o (i + k) - qY T o i) * (qX T o (i + j) - qX T o i)
def bnd (T : TS) (o i k : Nat) (s : Int) : Int := s * max ((qX T o (i + k) - qX T o i).natAbs : Int) ((qY T o (i + k) - qY T o i).natAbs : Int)
noncomputable def dbt (T : TS) (o j : Nat) : Int := cI (qX T o j < qX T o (j + 1)) 1 (cI (qX T o (j + 1) < qX T o j) 2 (cI (qY T o j < qY T o (j + 1)) 4 8))
noncomputable def dO (T : TS) (o i : Nat) : Nat → Int32
  | 0 => iI 0
  | j + 1 => dO T o i j ||| iI (dbt T o (i + j))
def cS (T : TS) (o i k : Nat) : Nat → Int := sm (fun j => ((crs T o i k j).natAbs : Int))
noncomputable def CO (T : TS) (o i k : Nat) (s : Int) : Int := cI (k = 1) 0 (cI ((∃ j, j < k ∧ bnd T o i k s < 2 * (crs T o i k j).natAbs) ∨ dO T o i k = iI 15) (-1) (cS T o i k k))
theorem mul_b {a m n : Nat} {x y : Int} (hx : -(m : Int) ≤ x ∧ x ≤ m) (hy : -(n : Int) ≤ y ∧ y ≤ n) (h : m * n ≤ a) : -(a : Int) ≤ x * y ∧ x * y ≤ a := by
  have h1 : (x * y).natAbs ≤ a := by rw [Int.natAbs_mul]; exact Nat.le_trans (Nat.mul_le_mul (by omega) (by omega)) h
  omega
theorem crs_b {W H : Nat} {T : TS} (hT : TB W H 7 T) {o : Nat} (ho : o < T.1) (i k j : Nat) : -512 ≤ crs T o i k j ∧ crs T o i k j ≤ 512 := by
  have a := (TB_q hT ho i).1; have b := (TB_q hT ho (i + k)).1; have c := (TB_q hT ho (i + j)).1
  have m1 := mul_b (a := 256) (m := 16) (n := 16) (x := qX T o (i + k) - qX T o i) (y := qY T o (i + j) - qY T o i) (by omega) (by omega) (by omega)
  have m2 := mul_b (a := 256) (m := 16) (n := 16) (x := qY T o (i + k) - qY T o i) (y := qX T o (i + j) - qX T o i) (by omega) (by omega) (by omega)
  unfold crs; omega
theorem bnd_b {W H : Nat} {T : TS} (hT : TB W H 7 T) {o : Nat} (ho : o < T.1) (i k : Nat) {s : Int} (hs : 1 ≤ s ∧ s ≤ 8) : 0 ≤ bnd T o i k s ∧ bnd T o i k s ≤ 128 := by
  have a := (TB_q hT ho i).1; have b := (TB_q hT ho (i + k)).1
  unfold bnd
  generalize hm : max ((qX T o (i + k) - qX T o i).natAbs : Int) ((qY T o (i + k) - qY T o i).natAbs : Int) = m
  have hm' : 0 ≤ m ∧ m ≤ 16 := by omega
  have m1 := mul_b (a := 128) (m := 8) (n := 16) (x := s) (y := m) (by omega) (by omega) (by omega)
  have := Int.mul_nonneg (show 0 ≤ s by omega) hm'.1
  omega
theorem crs_0 (T : TS) (o i k : Nat) : crs T o i k 0 = 0 := by unfold crs; simp
theorem cS_b {W H : Nat} {T : TS} (hT : TB W H 7 T) {o : Nat} (ho : o < T.1) (i k n : Nat) : 0 ≤ cS T o i k n ∧ cS T o i k n ≤ 512 * n := by
  have := sm_b (f := fun j => ((crs T o i k j).natAbs : Int)) (n := n) (lo := 0) (hi := 512) (fun j _ => by have := crs_b hT ho i k j; omega)
  unfold cS; omega
theorem CO_b {W H : Nat} {T : TS} (hT : TB W H 7 T) {o : Nat} (ho : o < T.1) (i k : Nat) {s : Int} (hs : 1 ≤ s ∧ s ≤ 8) : CO T o i k s = -1 ∨ (0 ≤ CO T o i k s ∧ CO T o i k s ≤ 64 * k) := by
  unfold CO
  by_cases e : k = 1
  · rw [cI_t e]; omega
  rw [cI_f e]
  by_cases e2 : (∃ j, j < k ∧ bnd T o i k s < 2 * (crs T o i k j).natAbs) ∨ dO T o i k = iI 15
  · rw [cI_t e2]; exact Or.inl rfl
  · rw [cI_f e2]
    have hb := bnd_b hT ho i k hs
    have := sm_b (f := fun j => ((crs T o i k j).natAbs : Int)) (n := k) (lo := 0) (hi := 64) (fun j hj => by
      have : ¬ bnd T o i k s < 2 * (crs T o i k j).natAbs := fun z => e2 (Or.inl ⟨j, hj, z⟩)
      omega)
    unfold cS; omega
theorem CO_1 (T : TS) (o i : Nat) (s : Int) : CO T o i 1 s = 0 := cI_t rfl
theorem t_M_apart {a b : Int} {post : Int32 → Unit → Prop} (ha : -1000 ≤ a ∧ a < 1000) (hb : -1000 ≤ b ∧ b < 1000) (g : post (iI ((b - a).natAbs : Int)) ()) : wp_M_apart (iI a) (iI b) post := by
  unfold wp_M_apart
  simp (disch := omega) only [iI_lit, iI_neg, iI_add, iI_sub, iI_mul, iI_nI, iI_ofNat, iI_lt, iI_le, iI_eq, iI_cl, bI_0, bI_1, forall_eq, forall_eq_apply_imp_iff, not_true_eq_false, not_false_eq_true, ne_eq, Classical.not_not, true_imp_iff, false_imp_iff, and_true, true_and, Int.reduceEq, Int.reduceLT, Int.reduceLE, Int.reduceNeg, implies_true]
  refine ⟨fun q => ?_, fun q => ?_⟩
  · rwa [show (((b - a).natAbs : Int)) = a - b by omega] at g
  · rwa [show (((b - a).natAbs : Int)) = b - a by omega] at g
theorem t_M_costOf {W H : Nat} {T : TS} {c p : Int32} {ff fs fl fa fx fy : Nat → Int32} (hT : TB W H 7 T) (hR : RM T c p ff fs fl fa fx fy) {o i k : Nat} (ho : o < T.1) (hi : i < 10000) (hk : 1 ≤ k ∧ k ≤ 24) {s : Int} (hs : 1 ≤ s ∧ s ≤ 8) {post : Int32 → Unit → Prop} (g : post (iI (CO T o i k s)) ()) : wp_M_costOf 900 900 3600 3600 ff fs fx fy (iI o) (iI i) (iI k) (iI s) post := by
  have qa := (TB_q hT ho i).1; have qb := (TB_q hT ho (i + k)).1
  have hbd := bnd_b hT ho i k hs
  unfold wp_M_costOf
  simp (disch := omega) only [iI_lit, iI_neg, iI_add, iI_sub, iI_mul, iI_nI, iI_ofNat, iI_lt, iI_le, iI_eq, iI_cl, bI_0, bI_1, forall_eq, forall_eq_apply_imp_iff, not_true_eq_false, not_false_eq_true, ne_eq, Classical.not_not, true_imp_iff, false_imp_iff, and_true, true_and, Int.reduceEq, Int.reduceLT, Int.reduceLE, Int.reduceNeg, implies_true]
  unfold CO at g
  refine ⟨fun q => ?_, fun q => ?_⟩
  rotate_left
  · rwa [cI_t (by omega)] at g
  rw [cI_f (by omega)] at g
  have loop : ∀ m : Int, m = max ((qX T o (i + k) - qX T o i).natAbs : Int) ((qY T o (i + k) - qY T o i).natAbs : Int) → wp_M_costOf_J77 900 900 3600 3600 ff fs fx fy (iI o) (iI i) (iI k) (iI (qX T o i)) (iI (qY T o i)) (iI (qX T o (i + k))) (iI (qY T o (i + k))) (iI m) (iI s) post := by
    intro m hm
    unfold wp_M_costOf_J77
    simp only [iI_lit, iI_neg, iI_add, iI_sub, iI_mul, iI_nI, iI_ofNat, iI_lt, iI_le, iI_eq, iI_cl, bI_0, bI_1, forall_eq, forall_eq_apply_imp_iff, not_true_eq_false, not_false_eq_true, ne_eq, Classical.not_not, true_imp_iff, false_imp_iff, and_true, true_and, Int.reduceEq, Int.reduceLT, Int.reduceLE, Int.reduceNeg, implies_true]
    have em : s * m = bnd T o i k s := by unfold bnd; rw [hm]
    rw [em]
    refine lp_n (fun j z => z.1 = dO T o i j ∧ z.2.1 = iI (cS T o i k j) ∧ z.2.2 = iI j ∧ ∀ t, t < j → ¬ bnd T o i k s < 2 * (crs T o i k t).natAbs) k ⟨0, by omega, rfl, rfl, rfl, fun t ht => absurd ht (Nat.not_lt_zero t)⟩ ?_
    rintro j ⟨a, b, d⟩ back hj ⟨h1, h2, h3, h4⟩ hback
    have h1 : a = _ := h1; have h2 : b = _ := h2; have h3 : d = _ := h3; subst h1; subst h2; subst h3
    have hcs := cS_b hT ho i k j
    have hcr := crs_b hT ho i k j
    simp (disch := omega) only [wp_M_costOf_L89, wp_M_costOf_J155, wp_M_costOf_J238, iI_lit, iI_neg, iI_add, iI_sub, iI_mul, iI_nI, iI_ofNat, iI_lt, iI_le, iI_eq, iI_cl, bI_0, bI_1, forall_eq, forall_eq_apply_imp_iff, not_true_eq_false, not_false_eq_true, ne_eq, Classical.not_not, true_imp_iff, false_imp_iff, and_true, true_and, Int.reduceEq, Int.reduceLT, Int.reduceLE, Int.reduceNeg, implies_true]
    refine ⟨fun z => ?_, fun z => ?_⟩
    · obtain rfl : j = k := by omega
      refine ⟨fun z2 => ?_, fun z2 => ?_⟩
      · rwa [cI_f (fun w => w.elim (fun ⟨t, w1, w2⟩ => h4 t w1 w2) (fun w => z2 w))] at g
      · rwa [cI_t (Or.inr z2)] at g
    have qc := (TB_q hT ho (i + j)).1; have qd := TB_q hT ho (i + j); have qe := (TB_q hT ho (i + j + 1)).1
    rw [show (i : Int) + j = ((i + j : Nat) : Int) by omega]
    refine call_i (fun Q q => t_M_xAt hT hR ho (by omega) q) ?_
    refine call_i (fun Q q => t_M_yAt hT hR ho (by omega) q) ?_
    simp only [iI_lit, iI_neg, iI_add, iI_sub, iI_mul, iI_nI, iI_ofNat, iI_lt, iI_le, iI_eq, iI_cl, bI_0, bI_1, forall_eq, forall_eq_apply_imp_iff, not_true_eq_false, not_false_eq_true, ne_eq, Classical.not_not, true_imp_iff, false_imp_iff, and_true, true_and, Int.reduceEq, Int.reduceLT, Int.reduceLE, Int.reduceNeg, implies_true]
    rw [show ((qX T o (i + k) - qX T o i) * (qY T o (i + j) - qY T o i) - (qY T o (i + k) - qY T o i) * (qX T o (i + j) - qX T o i)) = crs T o i k j from rfl]
    have eS : cS T o i k (j + 1) = cS T o i k j + ((crs T o i k j).natAbs : Int) := rfl
    have fin : ¬ bnd T o i k s < 2 * (crs T o i k j).natAbs → ∀ bit : Int, bit = dbt T o (i + j) → back (dO T o i j ||| iI bit, iI (cS T o i k j + ((crs T o i k j).natAbs : Int)), iI ((j : Int) + 1)) := by
      intro hv bit hbit
      refine hback _ (by omega) ⟨by rw [hbit]; rfl, rfl, by show iI _ = iI _; congr 1, fun t ht => ?_⟩
      by_cases e : t = j
      · rw [e]; exact hv
      · exact h4 t (by omega)
    have body : ∀ y0 : Int, y0 = ((crs T o i k j).natAbs : Int) → (iI (2 * y0) ≤ iI (bnd T o i k s) → ∃ Q183 : Int32 → Unit → Prop, wp_M_xAt 900 900 3600 ff fs fx (iI o) (iI (((i + j : Nat) : Int) + 1)) Q183 ∧ ∀ (r183 : Int32), Q183 r183 () → ∃ Q199 : Int32 → Unit → Prop, wp_M_yAt 900 900 3600 ff fs fy (iI o) (iI (((i + j : Nat) : Int) + 1)) Q199 ∧ ∀ (r199 : Int32), Q199 r199 () → ((r183 - iI (qX T o (i + j))) ≤ iI 0 → (iI 0 ≤ (r183 - iI (qX T o (i + j))) → ((r199 - iI (qY T o (i + j))) ≤ iI 0 → back (dO T o i j ||| iI 8, iI (cS T o i k j + y0), iI ((j : Int) + 1))) ∧ (¬ (r199 - iI (qY T o (i + j))) ≤ iI 0 → back (dO T o i j ||| iI 4, iI (cS T o i k j + y0), iI ((j : Int) + 1)))) ∧ (¬ iI 0 ≤ (r183 - iI (qX T o (i + j))) → back (dO T o i j ||| iI 2, iI (cS T o i k j + y0), iI ((j : Int) + 1)))) ∧ (¬ (r183 - iI (qX T o (i + j))) ≤ iI 0 → back (dO T o i j ||| iI 1, iI (cS T o i k j + y0), iI ((j : Int) + 1)))) ∧ (¬ iI (2 * y0) ≤ iI (bnd T o i k s) → post (iI (-1)) ()) := by
      rintro y0 rfl
      simp (disch := omega) only [iI_lit, iI_neg, iI_add, iI_sub, iI_mul, iI_nI, iI_ofNat, iI_lt, iI_le, iI_eq, iI_cl, bI_0, bI_1, forall_eq, forall_eq_apply_imp_iff, not_true_eq_false, not_false_eq_true, ne_eq, Classical.not_not, true_imp_iff, false_imp_iff, and_true, true_and, Int.reduceEq, Int.reduceLT, Int.reduceLE, Int.reduceNeg, implies_true]
      refine ⟨fun z2 => ?_, fun z2 => ?_⟩
      · have fin := fin (by omega)
        rw [show (((i + j : Nat) : Int) + 1) = ((i + j + 1 : Nat) : Int) by omega]
        refine call_i (fun Q q => t_M_xAt hT hR ho (by omega) q) ?_
        refine call_i (fun Q q => t_M_yAt hT hR ho (by omega) q) ?_
        simp (disch := omega) only [iI_lit, iI_neg, iI_add, iI_sub, iI_mul, iI_nI, iI_ofNat, iI_lt, iI_le, iI_eq, iI_cl, bI_0, bI_1, forall_eq, forall_eq_apply_imp_iff, not_true_eq_false, not_false_eq_true, ne_eq, Classical.not_not, true_imp_iff, false_imp_iff, and_true, true_and, Int.reduceEq, Int.reduceLT, Int.reduceLE, Int.reduceNeg, implies_true]
        unfold dbt at fin
        refine ⟨fun w1 => ⟨fun w2 => ⟨fun w3 => fin 8 ?_, fun w3 => fin 4 ?_⟩, fun w2 => fin 2 ?_⟩, fun w1 => fin 1 ?_⟩
        · rw [cI_f (by omega), cI_f (by omega), cI_f (by omega)]
        · rw [cI_f (by omega), cI_f (by omega), cI_t (by omega)]
        · rw [cI_f (by omega), cI_t (by omega)]
        · rw [cI_t (by omega)]
      · rwa [cI_t (Or.inl ⟨j, by omega, by omega⟩)] at g
    simp (disch := omega) only [iI_lit, iI_neg, iI_add, iI_sub, iI_mul, iI_nI, iI_ofNat, iI_lt, iI_le, iI_eq, iI_cl, bI_0, bI_1, forall_eq, forall_eq_apply_imp_iff, not_true_eq_false, not_false_eq_true, ne_eq, Classical.not_not, true_imp_iff, false_imp_iff, and_true, true_and, Int.reduceEq, Int.reduceLT, Int.reduceLE, Int.reduceNeg, implies_true]
    have hl1 := body (crs T o i k j); have hl2 := body (-(crs T o i k j))
    simp (disch := omega) only [iI_lit, iI_neg, iI_add, iI_sub, iI_mul, iI_nI, iI_ofNat, iI_lt, iI_le, iI_eq, iI_cl, bI_0, bI_1, forall_eq, forall_eq_apply_imp_iff, not_true_eq_false, not_false_eq_true, ne_eq, Classical.not_not, true_imp_iff, false_imp_iff, and_true, true_and, Int.reduceEq, Int.reduceLT, Int.reduceLE, Int.reduceNeg, implies_true] at hl1 hl2
    exact ⟨fun w => hl1 (by omega), fun w => hl2 (by omega)⟩
  refine call_i (fun Q q => t_M_xAt hT hR ho (by omega) q) ?_
  refine call_i (fun Q q => t_M_yAt hT hR ho (by omega) q) ?_
  rw [show (i : Int) + k = ((i + k : Nat) : Int) by omega]
  refine call_i (fun Q q => t_M_xAt hT hR ho (by omega) q) ?_
  refine call_i (fun Q q => t_M_yAt hT hR ho (by omega) q) ?_
  refine call_i (fun Q q => t_M_apart (by omega) (by omega) q) ?_
  refine call_i (fun Q q => t_M_apart (by omega) (by omega) q) ?_
  simp (disch := omega) only [iI_lit, iI_neg, iI_add, iI_sub, iI_mul, iI_nI, iI_ofNat, iI_lt, iI_le, iI_eq, iI_cl, bI_0, bI_1, forall_eq, forall_eq_apply_imp_iff, not_true_eq_false, not_false_eq_true, ne_eq, Classical.not_not, true_imp_iff, false_imp_iff, and_true, true_and, Int.reduceEq, Int.reduceLT, Int.reduceLE, Int.reduceNeg, implies_true]
  exact ⟨fun w => loop _ (by omega), fun w => loop _ (by omega)⟩
