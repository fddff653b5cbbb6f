theorem mod_s (a : Nat) {n : Nat} (hn : 0 < n) : (a + 1) % n = if a % n + 1 < n then a % n + 1 else 0 := by
  have h1 := Nat.mod_lt a hn
  rw [← Nat.mod_add_mod]
  split
  · exact Nat.mod_eq_of_lt (by omega)
  · rw [show a % n + 1 = n by omega, Nat.mod_self]
theorem dO_1 {W H : Nat} {T : TS} (o i : Nat) : ¬ dO T o i 1 = iI 15 := by
  show ¬ (iI 0 ||| iI (dbt T o (i + 0))) = iI 15
  have key : ∀ b : Int, b = 1 ∨ b = 2 ∨ b = 4 ∨ b = 8 → ¬ (iI 0 ||| iI b) = iI 15 := by
    intro b hb
    simp only [iI_d]
    rcases hb with rfl | rfl | rfl | rfl <;> decide +kernel
  refine key _ ?_
  unfold dbt
  refine cI_s (P := fun b => b = 1 ∨ b = 2 ∨ b = 4 ∨ b = 8) (fun _ => by simp) (fun _ => ?_)
  refine cI_s (P := fun b => b = 1 ∨ b = 2 ∨ b = 4 ∨ b = 8) (fun _ => by simp) (fun _ => ?_)
  exact cI_s (P := fun b => b = 1 ∨ b = 2 ∨ b = 4 ∨ b = 8) (fun _ => by simp) (fun _ => by simp)
-- what the class reads at a point
theorem RC_q {W H : Nat} {T : TS} {c : Int32} {fl fb fa fx fy : Nat → Int32} (hT : TB W H 7 T) (hR : RC T c fl fb fa fx fy) {o : Nat} (ho : o < T.1) (i : Nat) : fx (T.2.1 o + i % nn T o) = iI (qX T o i) ∧ fy (T.2.1 o + i % nn T o) = iI (qY T o i) := hR.2.2.2 _ (TB_i hT ho i)
theorem t_U_directionBit {W H nb nl na nX nY : Nat} {T : TS} {c : Int32} {fl fb fa fx fy : Nat → Int32} (hK : KU W H nb nl na nX nY) (hT : TB W H 7 T) (hR : RC T c fl fb fa fx fy) {o : Nat} (ho : o < T.1) (j : Nat) {post : Int32 → Unit → Prop} (g : post (iI (dbt T o j)) ()) : wp_U_directionBit nY nX fy fx (iI ((T.2.1 o + j % nn T o : Nat) : Int)) (iI ((T.2.1 o + (j + 1) % nn T o : Nat) : Int)) post := by
  have h1 := TB_o hT ho
  have i1 := TB_i hT ho j; have i2 := TB_i hT ho (j + 1)
  have q1 := RC_q hT hR ho j; have q2 := RC_q hT hR ho (j + 1)
  obtain ⟨k1, k2, k3, k4, k5, k6⟩ := hK
  have qq := TB_q hT ho j; have qe := (TB_q hT ho (j + 1)).1
  have hu := qq.2; have q0 := qq.1
  unfold unitS at hu
  unfold wp_U_directionBit
  simp (disch := omega) only [iI_lit, iI_neg, iI_add, iI_sub, iI_mul, iI_nI, iI_ofNat, iI_lt, iI_le, iI_eq, iI_cl, bI_0, bI_1, forall_eq, forall_eq_apply_imp_iff, not_true_eq_false, not_false_eq_true, ne_eq, Classical.not_not, true_imp_iff, false_imp_iff, and_true, true_and, Int.reduceEq, Int.reduceLT, Int.reduceLE, Int.reduceNeg, implies_true, Int.toNat_natCast]
  rw [q1.1, q1.2, q2.1, q2.2]
  simp (disch := omega) only [iI_lit, iI_neg, iI_add, iI_sub, iI_mul, iI_nI, iI_ofNat, iI_lt, iI_le, iI_eq, iI_cl, bI_0, bI_1, forall_eq, forall_eq_apply_imp_iff, not_true_eq_false, not_false_eq_true, ne_eq, Classical.not_not, true_imp_iff, false_imp_iff, and_true, true_and, Int.reduceEq, Int.reduceLT, Int.reduceLE, Int.reduceNeg, implies_true]
  have v1 : vp_in (iI ((T.2.1 o + j % nn T o : Nat) : Int)) nX := iI_in (by omega) (by omega) (by omega)
  have v2 : vp_in (iI ((T.2.1 o + (j + 1) % nn T o : Nat) : Int)) nX := iI_in (by omega) (by omega) (by omega)
  rw [k5]
  unfold dbt at g
  refine ⟨v1, v2, fun w => ⟨v2, v1, fun w2 => ?_, fun w2 => ?_⟩, fun w => ⟨v2, v1, fun w2 => ?_, fun w2 => ?_⟩⟩
  · rwa [cI_f (by omega), cI_f (by omega), cI_f (by omega)] at g
  · rwa [cI_f (by omega), cI_f (by omega), cI_t (by omega)] at g
  · rwa [cI_f (by omega), cI_t (by omega)] at g
  · rwa [cI_t (by omega)] at g
theorem t_U_costOf {W H nb nl na nX nY : Nat} {T : TS} {c : Int32} {fl fb fa fx fy : Nat → Int32} (hK : KU W H nb nl na nX nY) (hT : TB W H 7 T) (hR : RC T c fl fb fa fx fy) {o i k : Nat} (ho : o < T.1) (hi : i < nn T o) (hk : 1 ≤ k ∧ k ≤ 24) {s : Int} (hs : 1 ≤ s ∧ s ≤ 8) {post : Int32 → Unit → Prop} (g : post (iI (CO T o i k s)) ()) : wp_U_costOf nb nX nY fb fx fy (iI o) (iI i) (iI k) (iI s) post := by
  have h1 := TB_o hT ho
  have qa := (TB_q hT ho i).1; have qb := (TB_q hT ho (i + k)).1
  have hbd := bnd_b hT ho i k hs
  obtain ⟨r1, r2, r3, r4⟩ := id hR
  obtain ⟨k1, k2, k3, k4, k5, k6⟩ := id hK
  have hb1 := r2 o (by omega); have hb2 := r2 (o + 1) (by omega)
  have him : i % nn T o = i := Nat.mod_eq_of_lt hi
  have g' : ((∃ j, j < k ∧ bnd T o i k s < 2 * (crs T o i k j).natAbs) ∨ dO T o i k = iI 15 → post (iI (-1)) ()) ∧ (¬ ((∃ j, j < k ∧ bnd T o i k s < 2 * (crs T o i k j).natAbs) ∨ dO T o i k = iI 15) → post (iI (cS T o i k k)) ()) := by
    unfold CO at g
    by_cases e : k = 1
    · subst e
      rw [cI_t rfl] at g
      refine ⟨fun w => w.elim (fun ⟨j, w1, w2⟩ => ?_) (fun w => absurd w (dO_1 (W := W) (H := H) o i)), fun _ => ?_⟩
      · obtain rfl : j = 0 := by omega
        rw [crs_0] at w2; simp at w2; omega
      · have : cS T o i 1 1 = 0 := by show (0 : Int) + ((crs T o i 1 0).natAbs : Int) = 0; rw [crs_0]; rfl
        rwa [this]
    · rw [cI_f e] at g
      exact ⟨fun w => by rwa [cI_t w] at g, fun w => by rwa [cI_f w] at g⟩
  clear g
  -- one step round
  have hnx : ∀ j : Nat, (iI ((T.2.1 (o + 1) : Nat) : Int) ≤ iI (((T.2.1 o + (i + j) % nn T o : Nat) : Int) + 1) → T.2.1 o = T.2.1 o + (i + (j + 1)) % nn T o) ∧ (¬ iI ((T.2.1 (o + 1) : Nat) : Int) ≤ iI (((T.2.1 o + (i + j) % nn T o : Nat) : Int) + 1) → T.2.1 o + (i + j) % nn T o + 1 = T.2.1 o + (i + (j + 1)) % nn T o) := by
    intro j
    have := mod_s (i + j) (n := nn T o) (by omega)
    have hm := Nat.mod_lt (i + j) (show 0 < nn T o by omega)
    rw [iI_le (by omega) (by omega) (by omega) (by omega), ← Nat.add_assoc, this]
    refine ⟨fun w => ?_, fun w => ?_⟩
    · rw [if_neg (by omega)]; rfl
    · rw [if_pos (by omega)]; omega
  unfold wp_U_costOf
  simp (disch := omega) only [iI_lit, iI_neg, iI_add, iI_sub, iI_mul, iI_nI, iI_ofNat, iI_lt, iI_le, iI_eq, iI_cl, bI_0, bI_1, forall_eq, forall_eq_apply_imp_iff, not_true_eq_false, not_false_eq_true, ne_eq, Classical.not_not, true_imp_iff, false_imp_iff, and_true, true_and, Int.reduceEq, Int.reduceLT, Int.reduceLE, Int.reduceNeg, implies_true, Int.toNat_natCast]
  rw [show ((o : Int) + 1).toNat = o + 1 by omega, hb1, hb2]
  simp only [iI_lit, iI_neg, iI_add, iI_sub, iI_mul, iI_nI, iI_ofNat, iI_lt, iI_le, iI_eq, iI_cl, bI_0, bI_1, forall_eq, forall_eq_apply_imp_iff, not_true_eq_false, not_false_eq_true, ne_eq, Classical.not_not, true_imp_iff, false_imp_iff, and_true, true_and, Int.reduceEq, Int.reduceLT, Int.reduceLE, Int.reduceNeg, implies_true]
  refine ⟨iI_in (by omega) (by omega) (by omega), iI_in (by omega) (by omega) (by omega), ?_⟩
  rw [show (T.2.1 o : Int) + i = ((T.2.1 o + i : Nat) : Int) by omega]
  refine lp_n (fun j z => z.1 = iI ((T.2.1 o + (i + j) % nn T o : Nat) : Int) ∧ z.2.1 = dO T o i j ∧ z.2.2 = iI j) k ⟨0, by omega, by rw [Nat.add_zero, him], rfl, rfl⟩ ?_
  rintro j ⟨a, b, d⟩ back hj ⟨h2, h3, h4⟩ hback
  have h2 : a = _ := h2; have h3 : b = _ := h3; have h4 : d = _ := h4; subst h2; subst h3; subst h4
  have ij := TB_i hT ho (i + j); have ii := TB_i hT ho i
  rw [him] at ii
  simp (disch := omega) only [wp_U_costOf_L34, wp_U_costOf_J58, iI_lit, iI_neg, iI_add, iI_sub, iI_mul, iI_nI, iI_ofNat, forall_eq]
  rw [iI_le (by omega) (by omega) (by omega) (by omega)]
  refine ⟨fun z => ?_, fun z => ?_⟩
  · obtain rfl : j = k := by omega
    have p1 := RC_q hT hR ho i; have p2 := RC_q hT hR ho (i + j)
    rw [him] at p1
    refine ⟨fun z2 => ?_, fun z2 => g'.1 (Or.inr z2)⟩
    simp (disch := omega) only [iI_lit, iI_neg, iI_add, iI_sub, iI_mul, iI_nI, iI_ofNat, iI_lt, iI_le, iI_eq, iI_cl, bI_0, bI_1, forall_eq, forall_eq_apply_imp_iff, not_true_eq_false, not_false_eq_true, ne_eq, Classical.not_not, true_imp_iff, false_imp_iff, and_true, true_and, Int.reduceEq, Int.reduceLT, Int.reduceLE, Int.reduceNeg, implies_true, Int.toNat_natCast]
    rw [p1.1, p1.2, p2.1, p2.2]
    simp (disch := omega) only [iI_lit, iI_neg, iI_add, iI_sub, iI_mul, iI_nI, iI_ofNat, iI_lt, iI_le, iI_eq, iI_cl, bI_0, bI_1, forall_eq, forall_eq_apply_imp_iff, not_true_eq_false, not_false_eq_true, ne_eq, Classical.not_not, true_imp_iff, false_imp_iff, and_true, true_and, Int.reduceEq, Int.reduceLT, Int.reduceLE, Int.reduceNeg, implies_true, jabs_i, jmax_i]
    rw [show s * max ((qX T o (i + j) - qX T o i).natAbs : Int) ((qY T o (i + j) - qY T o i).natAbs : Int) = bnd T o i j s from rfl]
    have v1 : vp_in (iI ((T.2.1 o + i : Nat) : Int)) nX := iI_in (by omega) (by omega) (by omega)
    have v2 : vp_in (iI ((T.2.1 o + (i + j) % nn T o : Nat) : Int)) nX := iI_in (by omega) (by omega) (by omega)
    refine ⟨v2, v1, by rw [k5]; exact v2, by rw [k5]; exact v1, ?_⟩
    refine lp_n (fun t z => z.1 = iI (cS T o i j (t + 1)) ∧ z.2.1 = iI ((T.2.1 o + (i + t) % nn T o : Nat) : Int) ∧ z.2.2 = iI ((t + 1 : Nat) : Int) ∧ (t + 1 ≤ j) ∧ ∀ r, r < t + 1 → ¬ bnd T o i j s < 2 * (crs T o i j r).natAbs) j ⟨0, by omega, ?_, ?_, rfl, by omega, ?_⟩ ?_
    · show iI 0 = iI ((0 : Int) + ((crs T o i j 0).natAbs : Int)); rw [crs_0]; rfl
    · rw [Nat.add_zero, him]
    · intro r hr; obtain rfl : r = 0 := by omega
      rw [crs_0]; simp; omega
    rintro t ⟨a, b, d⟩ back2 ht ⟨h2, h3, h4, h5, h6⟩ hback2
    have h2 : a = _ := h2; have h3 : b = _ := h3; have h4 : d = _ := h4; subst h2; subst h3; subst h4
    have it := TB_i hT ho (i + t); have it1 := TB_i hT ho (i + (t + 1))
    simp (disch := omega) only [wp_U_costOf_L154, iI_lit, iI_neg, iI_add, iI_sub, iI_mul, iI_nI, iI_ofNat, forall_eq]
    rw [iI_le (a := (j : Int)) (by omega) (by omega) (by omega) (by omega)]
    refine ⟨fun w => ?_, fun w => ?_⟩
    · obtain rfl : t + 1 = j := by omega
      exact g'.2 (fun w => w.elim (fun ⟨r, w1, w2⟩ => h6 r w1 w2) (fun w => z2 w))
    have p3 := RC_q hT hR ho (i + (t + 1))
    have hcr := crs_b hT ho i j (t + 1); have hcs := cS_b hT ho i j (t + 1)
    have v3 : vp_in (iI ((T.2.1 o + (i + (t + 1)) % nn T o : Nat) : Int)) nX := iI_in (by omega) (by omega) (by omega)
    have stp : wp_U_costOf_J178 nb nX nY fb fx fy (iI j) (iI (T.2.1 o : Int)) (iI (T.2.1 (o + 1) : Int)) (iI ((T.2.1 o + i : Nat) : Int)) (iI (qX T o (i + j) - qX T o i)) (iI (qY T o (i + j) - qY T o i)) (iI (bnd T o i j s)) (iI (cS T o i j (t + 1))) (iI ((t + 1 : Nat) : Int)) (iI ((T.2.1 o + (i + (t + 1)) % nn T o : Nat) : Int)) back2 post := by
      unfold wp_U_costOf_J178
      simp (disch := omega) only [iI_lit, iI_cl, Int.toNat_natCast]
      rw [p1.1, p1.2, p3.1, p3.2, k5]
      simp (disch := omega) only [iI_lit, iI_neg, iI_add, iI_sub, iI_mul, forall_eq]
      rw [show ((qX T o (i + j) - qX T o i) * (qY T o (i + (t + 1)) - qY T o i) - (qY T o (i + j) - qY T o i) * (qX T o (i + (t + 1)) - qX T o i)) = crs T o i j (t + 1) from rfl, jabs_i (by omega) (by omega)]
      simp (disch := omega) only [iI_lit, iI_neg, iI_add, iI_sub, iI_mul, iI_nI, iI_ofNat, iI_lt, iI_le, iI_eq, iI_cl, bI_0, bI_1, forall_eq, forall_eq_apply_imp_iff, not_true_eq_false, not_false_eq_true, ne_eq, Classical.not_not, true_imp_iff, false_imp_iff, and_true, true_and, Int.reduceEq, Int.reduceLT, Int.reduceLE, Int.reduceNeg, implies_true]
      refine ⟨v3, v1, v3, v1, fun w2 => ?_, fun w2 => g'.1 (Or.inl ⟨t + 1, by omega, by omega⟩)⟩
      refine hback2 _ (by omega) ⟨rfl, rfl, by show iI _ = iI _; congr 1, by omega, fun r hr => ?_⟩
      by_cases e : r = t + 1
      · rw [e]; omega
      · exact h6 r (by omega)
    have hn := hnx t
    refine ⟨fun w2 => ?_, fun w2 => ?_⟩
    · have e := hn.1 w2
      rw [← e] at stp; exact stp
    · have e := hn.2 w2
      rw [← e] at stp
      rw [show (((T.2.1 o + (i + t) % nn T o : Nat) : Int) + 1) = ((T.2.1 o + (i + t) % nn T o + 1 : Nat) : Int) by omega]
      exact stp
  · have hn := hnx j
    have stp : ∀ y0 : Nat, y0 = T.2.1 o + (i + (j + 1)) % nn T o → ∃ Q67 : Int32 → Unit → Prop, wp_U_directionBit nY nX fy fx (iI ((T.2.1 o + (i + j) % nn T o : Nat) : Int)) (iI (y0 : Int)) Q67 ∧ ∀ (r67 : Int32), Q67 r67 () → back (iI (y0 : Int), (dO T o i j ||| r67), iI ((j : Int) + 1)) := by
      rintro y0 rfl
      rw [← Nat.add_assoc]
      refine call_i (fun Q q => t_U_directionBit hK hT hR ho (i + j) q) ?_
      exact hback _ (by omega) ⟨by rw [Nat.add_assoc], rfl, by show iI _ = iI _; congr 1⟩
    refine ⟨fun w2 => stp _ (hn.1 w2), fun w2 => ?_⟩
    rw [show (((T.2.1 o + (i + j) % nn T o : Nat) : Int) + 1) = ((T.2.1 o + (i + j) % nn T o + 1 : Nat) : Int) by omega]
    exact stp _ (hn.2 w2)
