-- corners: their places, angles and turns
theorem xor_sign (x y : Int32) : (0 ≤ x ^^^ y) ↔ (x.toInt < 0 ↔ y.toInt < 0) := by
  rw [Int32.le_iff_toInt_le]
  show (0 : Int) ≤ (x ^^^ y).toBitVec.toInt ↔ (x.toBitVec.toInt < 0 ↔ y.toBitVec.toInt < 0)
  rw [Int32.toBitVec_xor]
  have h1 := BitVec.msb_eq_toInt (x := x.toBitVec ^^^ y.toBitVec)
  have h2 := BitVec.msb_eq_toInt (x := x.toBitVec)
  have h3 := BitVec.msb_eq_toInt (x := y.toBitVec)
  rw [BitVec.msb_xor] at h1
  rw [h2, h3] at h1
  generalize (x.toBitVec ^^^ y.toBitVec).toInt = a at *
  generalize x.toBitVec.toInt = b at *
  generalize y.toBitVec.toInt = c at *
  by_cases hb : b < 0 <;> by_cases hc : c < 0 <;> by_cases ha : a < 0 <;> simp [ha, hb, hc] at h1 ⊢ <;> omega
theorem t_Jm_floorMod {a b : Int} (ha : -1000000 ≤ a ∧ a < 1000000) (hb : 1 ≤ b ∧ b < 1000000) {post : Int32 → Unit → Prop} (g : post (iI (a % b)) ()) : wp_Jm_floorMod (iI a) (iI b) post := by
  have e1 := Int.mul_tdiv_add_tmod a b
  have e2 : a % b = (a.tmod b) % b := by
    conv => lhs; rw [← e1]
    rw [Int.add_comm, Int.add_mul_emod_self_left]
  have hx := xor_sign (iI a) (iI b)
  rw [iI_T (by omega) (by omega), iI_T (by omega) (by omega)] at hx
  have hlt := Int.tmod_lt_of_pos a (show 0 < b by omega)
  have hng : 0 ≤ a → 0 ≤ a.tmod b := fun z => Int.tmod_nonneg b z
  have hnp : a ≤ 0 → a.tmod b ≤ 0 ∧ -b < a.tmod b := fun z => by
    have h1 : (-a).tmod b = -(a.tmod b) := Int.neg_tmod a b
    have h2 := Int.tmod_nonneg b (show 0 ≤ -a by omega)
    have h3 := Int.tmod_lt_of_pos (-a) (show 0 < b by omega)
    omega
  unfold wp_Jm_floorMod
  simp (disch := omega) only [iI_rem, iI_z, forall_eq]
  rw [iI_z] at hx
  rw [hx]
  generalize a.tmod b = m at *
  simp (disch := omega) only [iI_lit, iI_neg, iI_add, iI_sub, iI_mul, iI_nI, iI_ofNat, iI_lt, iI_le, iI_eq, iI_cl, bI_0, bI_1, forall_eq, forall_eq_apply_imp_iff, not_true_eq_false, not_false_eq_true, ne_eq, Classical.not_not, true_imp_iff, false_imp_iff, and_true, true_and, Int.reduceEq, Int.reduceLT, Int.reduceLE, Int.reduceNeg, implies_true]
  refine ⟨by omega, fun z => ?_, fun z => ⟨fun z2 => ?_, fun z2 => ?_⟩⟩
  · rw [e2, Int.emod_eq_of_lt (by omega) (by omega)] at g; exact g
  · rw [e2, z2, Int.zero_emod] at g; rw [z2]; exact g
  · have : m % b = m + b := by
      rw [← Int.add_emod_right, Int.emod_eq_of_lt (by omega) (by omega)]
    rw [e2, this] at g; exact g
theorem t_G_beside {N : Nat} {a b : Int} (hN : 1 ≤ N ∧ N < 1000000) (h : -1000000 ≤ a + b ∧ a + b < 1000000) {post : Int32 → Unit → Prop} (g : post (iI ((a + b) % (N : Int))) ()) : wp_G_cornerBeside (iI N) (iI a) (iI b) post := by
  unfold wp_G_cornerBeside
  simp (disch := omega) only [iI_lit, iI_neg, iI_add, iI_sub, iI_mul, iI_nI, iI_ofNat, iI_lt, iI_le, iI_eq, iI_cl, bI_0, bI_1, forall_eq, forall_eq_apply_imp_iff, not_true_eq_false, not_false_eq_true, ne_eq, Classical.not_not, true_imp_iff, false_imp_iff, and_true, true_and, Int.reduceEq, Int.reduceLT, Int.reduceLE, Int.reduceNeg, implies_true]
  refine ⟨fun _ => ?_, fun z => by omega⟩
  exact call_i (fun Q q => t_Jm_floorMod (by omega) (by omega) q) g
theorem mod_n (k N : Nat) {k' : Nat} (b : Int) (m : Nat) (h : (k : Int) + b + (m * N : Nat) = ((k' : Nat) : Int)) : ((k : Int) + b) % (N : Int) = ((k' % N : Nat) : Int) := by
  rw [Int.natCast_emod, ← h, Int.natCast_mul, Int.add_mul_emod_self_right]
def cr (X Y : Nat → Int) (N k : Nat) : Int := (X k - X (k + N - 1)) * (Y (k + 1) - Y k) - (Y k - Y (k + N - 1)) * (X (k + 1) - X k)
def inn (X Y : Nat → Int) (N k : Nat) : Int := (X k - X (k + N - 1)) * (X (k + 1) - X k) + (Y k - Y (k + N - 1)) * (Y (k + 1) - Y k)
noncomputable def ag (X Y : Nat → Int) (N k : Nat) : Int := cI (inn X Y N k ≤ 0) 64 (min 63 ((16 * ((cr X Y N k).natAbs : Int)).tdiv (inn X Y N k)))
noncomputable def tu (X Y : Nat → Int) (N k : Nat) : Int := cI (0 < cr X Y N k) 1 (cI (cr X Y N k < 0) (-1) 0)
-- the corners' coordinates: round, within the picture
def PG (X Y : Nat → Int) (N : Nat) : Prop := (3 ≤ N ∧ N ≤ 512) ∧ (∀ j, 0 ≤ X j ∧ X j ≤ 16 ∧ 0 ≤ Y j ∧ Y j ≤ 16) ∧ ∀ j, X (j % N) = X j ∧ Y (j % N) = Y j
theorem cr_b {X Y : Nat → Int} {N : Nat} (h : PG X Y N) (k : Nat) : (-512 ≤ cr X Y N k ∧ cr X Y N k ≤ 512) ∧ (-512 ≤ inn X Y N k ∧ inn X Y N k ≤ 512) := by
  have a := h.2.1 k; have b := h.2.1 (k + N - 1); have c := h.2.1 (k + 1)
  have m1 := mul_b (a := 256) (m := 16) (n := 16) (x := X k - X (k + N - 1)) (y := Y (k + 1) - Y k) (by omega) (by omega) (by omega)
  have m2 := mul_b (a := 256) (m := 16) (n := 16) (x := Y k - Y (k + N - 1)) (y := X (k + 1) - X k) (by omega) (by omega) (by omega)
  have m3 := mul_b (a := 256) (m := 16) (n := 16) (x := X k - X (k + N - 1)) (y := X (k + 1) - X k) (by omega) (by omega) (by omega)
  have m4 := mul_b (a := 256) (m := 16) (n := 16) (x := Y k - Y (k + N - 1)) (y := Y (k + 1) - Y k) (by omega) (by omega) (by omega)
  unfold cr inn; omega
theorem dv_b {a b : Int} (ha : 0 ≤ a ∧ a ≤ 100000) (hb : 0 < b) : 0 ≤ a.tdiv b ∧ a.tdiv b ≤ 100000 := by
  have h1 := Int.tdiv_nonneg ha.1 (Int.le_of_lt hb)
  have h2 := Int.natAbs_tdiv_le_natAbs a b
  omega
theorem ag_b {X Y : Nat → Int} {N : Nat} (h : PG X Y N) (k : Nat) : 0 ≤ ag X Y N k ∧ ag X Y N k ≤ 64 := by
  have hb := cr_b h k
  unfold ag
  refine cI_s (P := fun z => 0 ≤ z ∧ z ≤ 64) (fun _ => by omega) (fun w => ?_)
  have := dv_b (a := 16 * ((cr X Y N k).natAbs : Int)) (b := inn X Y N k) (by omega) (by omega)
  omega
theorem tu_b (X Y : Nat → Int) (N k : Nat) : -1 ≤ tu X Y N k ∧ tu X Y N k ≤ 1 := by
  unfold tu
  refine cI_s (P := fun z => -1 ≤ z ∧ z ≤ 1) (fun _ => by omega) (fun _ => ?_)
  exact cI_s (P := fun z => -1 ≤ z ∧ z ≤ 1) (fun _ => by omega) (fun _ => by omega)
theorem ag_m {X Y : Nat → Int} {N : Nat} (h : PG X Y N) (k : Nat) : ag X Y N (k % N) = ag X Y N k ∧ tu X Y N (k % N) = tu X Y N k := by
  have e1 := h.2.2 k
  have e2 : X (k % N + 1) = X (k + 1) ∧ Y (k % N + 1) = Y (k + 1) := by
    have a := h.2.2 (k % N + 1); have b := h.2.2 (k + 1)
    rw [Nat.mod_add_mod] at a
    exact ⟨by rw [← a.1, b.1], by rw [← a.2, b.2]⟩
  have e3 : X (k % N + N - 1) = X (k + N - 1) ∧ Y (k % N + N - 1) = Y (k + N - 1) := by
    have a := h.2.2 (k % N + N - 1); have b := h.2.2 (k + N - 1)
    have hN := h.1
    rw [show k % N + N - 1 = k % N + (N - 1) by omega, Nat.mod_add_mod] at a
    rw [show k + N - 1 = k + (N - 1) by omega] at b
    rw [show k % N + N - 1 = k % N + (N - 1) by omega, show k + N - 1 = k + (N - 1) by omega]
    exact ⟨by rw [← a.1, b.1], by rw [← a.2, b.2]⟩
  have c1 : cr X Y N (k % N) = cr X Y N k := by unfold cr; rw [e1.1, e1.2, e2.1, e2.2, e3.1, e3.2]
  have c2 : inn X Y N (k % N) = inn X Y N k := by unfold inn; rw [e1.1, e1.2, e2.1, e2.2, e3.1, e3.2]
  unfold ag tu; rw [c1, c2]; exact ⟨rfl, rfl⟩
theorem t_G_measureCorner {X Y : Nat → Int} {N nx ny na nt : Nat} {fx fy fa ft : Nat → Int32} (h : PG X Y N) (hs : N ≤ nx ∧ nx < 10000) (hs2 : N ≤ ny ∧ ny < 10000) (hs3 : N ≤ na ∧ na < 10000) (hs4 : N ≤ nt ∧ nt < 10000) (hf : ∀ j, j < N → fx j = iI (X j) ∧ fy j = iI (Y j)) {k : Nat} (hk : k < N) {post : ((Nat → Int32) × (Nat → Int32)) → Prop} (g : post (upd fa k (iI (ag X Y N k)), upd ft k (iI (tu X Y N k)))) : wp_G_measureCorner nx ny na nt (iI N) fx fy fa ft (iI k) post := by
  have hN := h.1
  have hcb := cr_b h k
  have q1 := h.2.1 k; have q2 := h.2.1 (k + N - 1); have q3 := h.2.1 (k + 1)
  unfold wp_G_measureCorner
  simp only [iI_lit, iI_neg, iI_add, iI_sub, iI_mul, iI_nI, iI_ofNat, iI_lt, iI_le, iI_eq, iI_cl, bI_0, bI_1, forall_eq, forall_eq_apply_imp_iff, not_true_eq_false, not_false_eq_true, ne_eq, Classical.not_not, true_imp_iff, false_imp_iff, and_true, true_and, Int.reduceEq, Int.reduceLT, Int.reduceLE, Int.reduceNeg, implies_true]
  have e1 : ((k : Int) + -1) % (N : Int) = (((k + N - 1) % N : Nat) : Int) := mod_n k N (-1) 1 (by omega)
  have e2 : ((k : Int) + 1) % (N : Int) = (((k + 1) % N : Nat) : Int) := mod_n k N 1 0 (by omega)
  refine call_i (fun Q q => t_G_beside (by omega) (by omega) q) ?_
  refine call_i (fun Q q => t_G_beside (by omega) (by omega) q) ?_
  rw [e1, e2]
  have m1 : (k + N - 1) % N < N := Nat.mod_lt _ (by omega)
  have m2 : (k + 1) % N < N := Nat.mod_lt _ (by omega)
  simp (disch := omega) only [iI_lit, iI_neg, iI_add, iI_sub, iI_mul, iI_nI, iI_ofNat, iI_lt, iI_le, iI_eq, iI_cl, bI_0, bI_1, forall_eq, forall_eq_apply_imp_iff, not_true_eq_false, not_false_eq_true, ne_eq, Classical.not_not, true_imp_iff, false_imp_iff, and_true, true_and, Int.reduceEq, Int.reduceLT, Int.reduceLE, Int.reduceNeg, implies_true, Int.toNat_natCast]
  rw [(hf _ m1).1, (hf _ m1).2, (hf _ m2).1, (hf _ m2).2, (hf k hk).1, (hf k hk).2, (h.2.2 _).1, (h.2.2 _).2, (h.2.2 (k + 1)).1, (h.2.2 (k + 1)).2]
  simp only [iI_lit, iI_neg, iI_add, iI_sub, iI_mul, iI_nI, iI_ofNat, iI_lt, iI_le, iI_eq, iI_cl, bI_0, bI_1, forall_eq, forall_eq_apply_imp_iff, not_true_eq_false, not_false_eq_true, ne_eq, Classical.not_not, true_imp_iff, false_imp_iff, and_true, true_and, Int.reduceEq, Int.reduceLT, Int.reduceLE, Int.reduceNeg, implies_true]
  rw [show (X k - X (k + N - 1)) * (Y (k + 1) - Y k) - (Y k - Y (k + N - 1)) * (X (k + 1) - X k) = cr X Y N k from rfl, show (X k - X (k + N - 1)) * (X (k + 1) - X k) + (Y k - Y (k + N - 1)) * (Y (k + 1) - Y k) = inn X Y N k from rfl]
  have i1 : vp_in (iI (k : Int)) nx := iI_in (by omega) (by omega) (by omega)
  have i2 : vp_in (iI (((k + N - 1) % N : Nat) : Int)) nx := iI_in (by omega) (by omega) (by omega)
  have i3 : vp_in (iI (((k + 1) % N : Nat) : Int)) nx := iI_in (by omega) (by omega) (by omega)
  have j1 : vp_in (iI (k : Int)) ny := iI_in (by omega) (by omega) (by omega)
  have j2 : vp_in (iI (((k + N - 1) % N : Nat) : Int)) ny := iI_in (by omega) (by omega) (by omega)
  have j3 : vp_in (iI (((k + 1) % N : Nat) : Int)) ny := iI_in (by omega) (by omega) (by omega)
  have fin : ∀ v : Int, v = ag X Y N k → wp_G_measureCorner_J131 nx ny na nt (iI N) fx fy fa ft (iI k) (iI (cr X Y N k)) (iI v) (iI k) post := by
    rintro v rfl
    unfold wp_G_measureCorner_J131 wp_Ji_compare
    simp (disch := omega) only [iI_lit, iI_neg, iI_add, iI_sub, iI_mul, iI_nI, iI_ofNat, iI_lt, iI_le, iI_eq, iI_cl, bI_0, bI_1, forall_eq, forall_eq_apply_imp_iff, not_true_eq_false, not_false_eq_true, ne_eq, Classical.not_not, true_imp_iff, false_imp_iff, and_true, true_and, Int.reduceEq, Int.reduceLT, Int.reduceLE, Int.reduceNeg, implies_true, Int.toNat_natCast]
    refine ⟨iI_in (by omega) (by omega) (by omega), ?_⟩
    refine call_i (v := iI (tu X Y N k)) (fun Q q => ?_) ⟨iI_in (by omega) (by omega) (by omega), g⟩
    unfold tu at q
    refine ⟨fun z => ⟨fun z2 => ?_, fun z2 => ?_⟩, fun z => ?_⟩
    · rwa [cI_t (by omega)] at q
    · rwa [cI_f (by omega), cI_f (by omega)] at q
    · rwa [cI_f (by omega), cI_t (by omega)] at q
  simp (disch := omega) only [iI_lit, iI_neg, iI_add, iI_sub, iI_mul, iI_nI, iI_ofNat, iI_lt, iI_le, iI_eq, iI_cl, bI_0, bI_1, forall_eq, forall_eq_apply_imp_iff, not_true_eq_false, not_false_eq_true, ne_eq, Classical.not_not, true_imp_iff, false_imp_iff, and_true, true_and, Int.reduceEq, Int.reduceLT, Int.reduceLE, Int.reduceNeg, implies_true, jabs_i]
  refine ⟨i1, i2, j1, j2, i3, i1, j3, j1, fun z => ⟨by omega, ?_⟩, fun z => ?_⟩
  · have hd := dv_b (a := 16 * ((cr X Y N k).natAbs : Int)) (b := inn X Y N k) (by omega) (by omega)
    rw [iI_div (by omega) (by omega) (by omega) (by omega), jmin_i (by omega) (by omega) (by omega) (by omega)]
    exact fin _ (by unfold ag; rw [cI_f (by omega)])
  · exact fin _ (by unfold ag; rw [cI_t (by omega)])
