-- the four points of a curve
noncomputable def hnd (X : Nat → Int) (N f m : Nat) (p : Int) (i : Nat) : Int :=
  if i = 0 then 16 * (X (f + N - 1) + X f)
  else if i = 1 then cI (p = 0) (32 * X f) (16 * (X (f + N - 1) + X f) + p * (X f - X (f + N - 1)))
  else if i = 2 then cI (p = 0) (32 * X f) (16 * (X (f + m - 1) + X (f + m)) - p * (X (f + m) - X (f + m - 1)))
  else 16 * (X (f + m - 1) + X (f + m))
def HA (h : Nat → Int) (f : Nat → Int32) : Prop := ∀ i, i < 4 → f i = iI (h i)
theorem hnd_b {X : Nat → Int} {N : Nat} (h : ∀ j, 0 ≤ X j ∧ X j ≤ 16) (f m : Nat) {p : Int} (hp : 0 ≤ p ∧ p ≤ 64) (i : Nat) : -1536 ≤ hnd X N f m p i ∧ hnd X N f m p i ≤ 1536 := by
  have a := h (f + N - 1); have b := h f; have c := h (f + m - 1); have d := h (f + m)
  have m1 := mul_b (a := 1024) (m := 64) (n := 16) (x := p) (y := X f - X (f + N - 1)) (by omega) (by omega) (by omega)
  have m2 := mul_b (a := 1024) (m := 64) (n := 16) (x := p) (y := X (f + m) - X (f + m - 1)) (by omega) (by omega) (by omega)
  unfold hnd
  split
  · omega
  · split
    · exact cI_s (P := fun z => -1536 ≤ z ∧ z ≤ 1536) (fun _ => by omega) (fun _ => by omega)
    · split
      · exact cI_s (P := fun z => -1536 ≤ z ∧ z ≤ 1536) (fun _ => by omega) (fun _ => by omega)
      · omega
theorem HA4 {h : Nat → Int} {f : Nat → Int32} (h0 : f 0 = iI (h 0)) (h1 : f 1 = iI (h 1)) (h2 : f 2 = iI (h 2)) (h3 : f 3 = iI (h 3)) : HA h f := by
  intro i hi
  rcases (by omega : i = 0 ∨ i = 1 ∨ i = 2 ∨ i = 3) with rfl | rfl | rfl | rfl <;> assumption
def cub (h : Nat → Int) (t : Int) : Int := (8 - t) * (8 - t) * (8 - t) * h 0 + 3 * (8 - t) * (8 - t) * t * h 1 + 3 * (8 - t) * t * t * h 2 + t * t * t * h 3
noncomputable def shv (h : Nat → Int) (t : Int) : Int := cI (t ≤ 4) (128 * ((4 - t) * h 0 + t * h 1)) (128 * ((8 - t) * h 1 + (t - 4) * h 3))
theorem cub_b {h : Nat → Int} (hh : ∀ i, -1536 ≤ h i ∧ h i ≤ 1536) {t : Int} (ht : 0 ≤ t ∧ t ≤ 8) : -10000000 ≤ cub h t ∧ cub h t ≤ 10000000 := by
  have a := hh 0; have b := hh 1; have c := hh 2; have d := hh 3
  unfold cub
  rcases (by omega : t = 0 ∨ t = 1 ∨ t = 2 ∨ t = 3 ∨ t = 4 ∨ t = 5 ∨ t = 6 ∨ t = 7 ∨ t = 8) with rfl | rfl | rfl | rfl | rfl | rfl | rfl | rfl | rfl <;> omega
theorem shv_b {h : Nat → Int} (hh : ∀ i, -1536 ≤ h i ∧ h i ≤ 1536) {t : Int} (ht : 0 ≤ t ∧ t ≤ 8) : -10000000 ≤ shv h t ∧ shv h t ≤ 10000000 := by
  have a := hh 0; have b := hh 1; have c := hh 2; have d := hh 3
  unfold shv
  refine cI_s (P := fun z => -10000000 ≤ z ∧ z ≤ 10000000) (fun _ => ?_) (fun _ => ?_)
  · rcases (by omega : t = 0 ∨ t = 1 ∨ t = 2 ∨ t = 3 ∨ t = 4 ∨ t = 5 ∨ t = 6 ∨ t = 7 ∨ t = 8) with rfl | rfl | rfl | rfl | rfl | rfl | rfl | rfl | rfl <;> omega
  · rcases (by omega : t = 0 ∨ t = 1 ∨ t = 2 ∨ t = 3 ∨ t = 4 ∨ t = 5 ∨ t = 6 ∨ t = 7 ∨ t = 8) with rfl | rfl | rfl | rfl | rfl | rfl | rfl | rfl | rfl <;> omega
theorem c0 : (0 : Int32).toNatClampNeg = 0 := rfl
theorem c1 : (1 : Int32).toNatClampNeg = 1 := rfl
theorem c2 : (2 : Int32).toNatClampNeg = 2 := rfl
theorem c3 : (3 : Int32).toNatClampNeg = 3 := rfl
theorem v4 {i : Int} (h : 0 ≤ i ∧ i < 4) : vp_in (iI i) 4 := iI_in h.1 (by omega) (by omega)
theorem t_C_cubicAt {h : Nat → Int} {f : Nat → Int32} (hf : HA h f) {t : Int} {post : Int32 → Unit → Prop} (g : post (iI (cub h t)) ()) : wp_C_cubicAt 4 f (iI t) post := by
  unfold wp_C_cubicAt
  rw [c0, c1, c2, c3, hf 0 (by omega), hf 1 (by omega), hf 2 (by omega), hf 3 (by omega)]
  simp only [iI_lit, iI_neg, iI_add, iI_sub, iI_mul, iI_nI, iI_ofNat, iI_lt, iI_le, iI_eq, iI_cl, bI_0, bI_1, forall_eq, forall_eq_apply_imp_iff, not_true_eq_false, not_false_eq_true, ne_eq, Classical.not_not, true_imp_iff, false_imp_iff, and_true, true_and, Int.reduceEq, Int.reduceLT, Int.reduceLE, Int.reduceNeg, implies_true]
  exact ⟨v4 (by omega), v4 (by omega), v4 (by omega), v4 (by omega), g⟩
theorem t_C_sharpAt {h : Nat → Int} {f : Nat → Int32} (hf : HA h f) {t : Int} (ht : 0 ≤ t ∧ t ≤ 8) {post : Int32 → Unit → Prop} (g : post (iI (shv h t)) ()) : wp_C_sharpAt 4 f (iI t) post := by
  unfold wp_C_sharpAt wp_C_sharpAt_J37
  rw [c0, c1, c3, hf 0 (by omega), hf 1 (by omega), hf 3 (by omega)]
  simp (disch := omega) only [iI_lit, iI_neg, iI_add, iI_sub, iI_mul, iI_nI, iI_ofNat, iI_lt, iI_le, iI_eq, iI_cl, bI_0, bI_1, forall_eq, forall_eq_apply_imp_iff, not_true_eq_false, not_false_eq_true, ne_eq, Classical.not_not, true_imp_iff, false_imp_iff, and_true, true_and, Int.reduceEq, Int.reduceLT, Int.reduceLE, Int.reduceNeg, implies_true]
  unfold shv at g
  refine ⟨fun z => ⟨v4 (by omega), v4 (by omega), ?_⟩, fun z => ⟨v4 (by omega), v4 (by omega), ?_⟩⟩
  · rwa [cI_f (by omega)] at g
  · rwa [cI_t (by omega)] at g
theorem t_M_along {h : Nat → Int} {f : Nat → Int32} (hf : HA h f) {t : Int} (ht : 0 ≤ t ∧ t ≤ 8) {sh : Prop} {post : Int32 → Unit → Prop} (g : post (iI (cI sh (shv h t) (cub h t))) ()) : wp_M_along 4 f (iI t) (bI sh) post := by
  unfold wp_M_along
  rw [c0, c1, c2, c3, hf 0 (by omega), hf 1 (by omega), hf 2 (by omega), hf 3 (by omega)]
  simp (disch := omega) only [iI_lit, iI_neg, iI_add, iI_sub, iI_mul, iI_nI, iI_ofNat, iI_lt, iI_le, iI_eq, iI_cl, bI_0, bI_1, forall_eq, forall_eq_apply_imp_iff, not_true_eq_false, not_false_eq_true, ne_eq, Classical.not_not, true_imp_iff, false_imp_iff, and_true, true_and, Int.reduceEq, Int.reduceLT, Int.reduceLE, Int.reduceNeg, implies_true]
  refine ⟨fun z => ⟨v4 (by omega), v4 (by omega), v4 (by omega), v4 (by omega), ?_⟩, fun z => ⟨fun z2 => ⟨v4 (by omega), v4 (by omega), ?_⟩, fun z2 => ⟨v4 (by omega), v4 (by omega), ?_⟩⟩⟩
  · rwa [cI_f z] at g
  · rw [cI_t z] at g; unfold shv at g; rwa [cI_f (by omega)] at g
  · rw [cI_t z] at g; unfold shv at g; rwa [cI_t (by omega)] at g
theorem t_C_layOn {X : Nat → Int} {N S f m : Nat} {p : Int} (hN : 3 ≤ N ∧ N ≤ 512) (hper : ∀ j, X (j % N) = X j) (hS : N ≤ S ∧ S < 10000) {fx fh : Nat → Int32} (hf : ∀ j, j < N → fx j = iI (X j)) (hfN : f < N) (hp : 0 ≤ p ∧ p ≤ 64) {post : (Nat → Int32) → Prop} (g : ∀ fh', HA (hnd X N f m p) fh' → post fh') :
    wp_C_layOn S 4 fx fh (iI p) (iI (((f + N - 1) % N : Nat) : Int)) (iI f) (iI (((f + m - 1) % N : Nat) : Int)) (iI (((f + m) % N : Nat) : Int)) post := by
  have m1 : (f + N - 1) % N < N := Nat.mod_lt _ (by omega)
  have m2 : (f + m - 1) % N < N := Nat.mod_lt _ (by omega)
  have m3 : (f + m) % N < N := Nat.mod_lt _ (by omega)
  have i1 : vp_in (iI (((f + N - 1) % N : Nat) : Int)) S := iI_in (by omega) (by omega) (by omega)
  have i2 : vp_in (iI (f : Int)) S := iI_in (by omega) (by omega) (by omega)
  have i3 : vp_in (iI (((f + m - 1) % N : Nat) : Int)) S := iI_in (by omega) (by omega) (by omega)
  have i4 : vp_in (iI (((f + m) % N : Nat) : Int)) S := iI_in (by omega) (by omega) (by omega)
  unfold wp_C_layOn
  simp (disch := omega) only [c0, c1, c2, c3, iI_cl, Int.toNat_natCast]
  rw [hf _ m1, hf _ m2, hf _ m3, hf f hfN, hper, hper, hper]
  simp (disch := omega) only [iI_lit, iI_neg, iI_add, iI_sub, iI_mul, iI_nI, iI_ofNat, iI_lt, iI_le, iI_eq, iI_cl, bI_0, bI_1, forall_eq, forall_eq_apply_imp_iff, not_true_eq_false, not_false_eq_true, ne_eq, Classical.not_not, true_imp_iff, false_imp_iff, and_true, true_and, Int.reduceEq, Int.reduceLT, Int.reduceLE, Int.reduceNeg, implies_true, upd_t]
  refine ⟨i1, i2, v4 (by omega), i3, i4, v4 (by omega), fun z => ⟨v4 (by omega), i2, i1, v4 (by omega), v4 (by omega), i4, i3, v4 (by omega), ?_⟩, fun z => ⟨i2, v4 (by omega), i2, v4 (by omega), ?_⟩⟩
  · refine g _ (HA4 ?_ ?_ ?_ ?_)
    · simp [upd, hnd]
    · simp [upd, hnd]; rw [cI_f z, iI_add]
    · simp [upd, hnd]; rw [cI_f z, iI_sub]
    · simp [upd, hnd]
  · refine g _ (HA4 ?_ ?_ ?_ ?_)
    · simp [upd, hnd]
    · simp [upd, hnd]; rw [cI_t z]
    · simp [upd, hnd]; rw [cI_t z]
    · simp [upd, hnd]
theorem t_C_layHand {X Y : Nat → Int} {N S f m : Nat} {p : Int} (hG : PG X Y N) (hS : N ≤ S ∧ S < 10000) {fx fy fhx fhy : Nat → Int32} (hf : ∀ j, j < N → fx j = iI (X j) ∧ fy j = iI (Y j)) (hfN : f < N) (hm : 1 ≤ m ∧ m ≤ 6) (hp : 0 ≤ p ∧ p ≤ 64) {post : ((Nat → Int32) × (Nat → Int32)) → Prop} (g : ∀ a b, HA (hnd X N f m p) a → HA (hnd Y N f m p) b → post (a, b)) :
    wp_C_layHand S 4 S 4 (iI N) fx fhx fy fhy (iI f) (iI m) (iI p) post := by
  have hN := hG.1
  unfold wp_C_layHand
  simp only [iI_lit, iI_neg, iI_add, iI_sub, iI_mul, iI_nI, iI_ofNat, iI_lt, iI_le, iI_eq, iI_cl, bI_0, bI_1, forall_eq, forall_eq_apply_imp_iff, not_true_eq_false, not_false_eq_true, ne_eq, Classical.not_not, true_imp_iff, false_imp_iff, and_true, true_and, Int.reduceEq, Int.reduceLT, Int.reduceLE, Int.reduceNeg, implies_true]
  have e1 : ((f : Int) + -1) % (N : Int) = (((f + N - 1) % N : Nat) : Int) := mod_n f N (-1) 1 (by omega)
  have e2 : ((f : Int) + ((m : Int) - 1)) % (N : Int) = (((f + m - 1) % N : Nat) : Int) := mod_n f N ((m : Int) - 1) 0 (by omega)
  have e3 : ((f : Int) + (m : Int)) % (N : Int) = (((f + m) % N : Nat) : Int) := mod_n f N (m : Int) 0 (by omega)
  refine call_i (fun Q q => t_G_beside (by omega) (by omega) q) ?_
  refine call_i (fun Q q => t_G_beside (by omega) (by omega) q) ?_
  refine call_i (fun Q q => t_G_beside (by omega) (by omega) q) ?_
  rw [e1, e2, e3]
  refine call_r (t_C_layOn (post := HA (hnd X N f m p)) hN (fun j => (hG.2.2 j).1) hS (fun j hj => (hf j hj).1) hfN hp (fun _ h => h)) (fun a ha => ?_)
  refine call_r (t_C_layOn (post := HA (hnd Y N f m p)) hN (fun j => (hG.2.2 j).2) hS (fun j hj => (hf j hj).2) hfN hp (fun _ h => h)) (fun b hb => ?_)
  exact g a b ha hb
theorem t_M_set {N : Nat} {X Y : Nat → Int} {of : Int32} {fk ff fs fx fy px py : Nat → Int32} (hG : PG X Y N) (hX : CRX N X of fk ff fs fx) (hY : CRY N Y of fk ff fs fy) {f m : Nat} {p : Int} (hfb : f < 10000) (hm : 1 ≤ m ∧ m ≤ 6) (hp : 0 ≤ p ∧ p ≤ 64) {post : ((Nat → Int32) × (Nat → Int32)) → Prop} (g : ∀ a b, HA (hnd X N f m p) a → HA (hnd Y N f m p) b → post (a, b)) :
    wp_M_set 512 900 900 3600 4 3600 4 of (iI N) fk ff fs fx px fy py (iI f) (iI m) (iI p) post := by
  have hN := hG.1
  unfold wp_M_set wp_M_set_J150 wp_M_set_J192 wp_M_set_J235 wp_M_set_J278
  simp only [c0, c1, c2, c3, iI_lit, iI_neg, iI_add, iI_sub, iI_mul, iI_nI, iI_ofNat, iI_lt, iI_le, iI_eq, iI_cl, bI_0, bI_1, forall_eq, forall_eq_apply_imp_iff, not_true_eq_false, not_false_eq_true, ne_eq, Classical.not_not, true_imp_iff, false_imp_iff, and_true, true_and, Int.reduceEq, Int.reduceLT, Int.reduceLE, Int.reduceNeg, implies_true]
  rw [show (f : Int) + N - 1 = ((f + N - 1 : Nat) : Int) by omega, show (f : Int) + m - 1 + 1 = ((f + m : Nat) : Int) by omega, show (f : Int) + m - 1 = ((f + m - 1 : Nat) : Int) by omega]
  refine call_i (hX _ (by omega)) ?_
  refine call_i (hX _ (by omega)) ⟨v4 (by omega), ?_⟩
  refine call_i (hY _ (by omega)) ?_
  refine call_i (hY _ (by omega)) ⟨v4 (by omega), ?_⟩
  refine call_i (hX _ (by omega)) ?_
  refine call_i (hX _ (by omega)) ⟨v4 (by omega), ?_⟩
  refine call_i (hY _ (by omega)) ?_
  refine call_i (hY _ (by omega)) ⟨v4 (by omega), ?_⟩
  rw [iI_eq (a := p) (b := 0) (by omega) (by omega) (by omega) (by omega)]
  refine ⟨fun z => ?_, fun z => ?_⟩
  · refine ⟨v4 (by omega), ?_⟩
    refine call_i (hX _ (by omega)) ?_
    refine call_i (hX _ (by omega)) ⟨v4 (by omega), fun _ => ⟨v4 (by omega), ?_⟩, fun w => absurd w z⟩
    refine call_i (hY _ (by omega)) ?_
    refine call_i (hY _ (by omega)) ⟨v4 (by omega), fun _ => ⟨v4 (by omega), ?_⟩, fun w => absurd w z⟩
    refine call_i (hX _ (by omega)) ?_
    refine call_i (hX _ (by omega)) ⟨v4 (by omega), fun _ => ⟨v4 (by omega), ?_⟩, fun w => absurd w z⟩
    refine call_i (hY _ (by omega)) ?_
    refine call_i (hY _ (by omega)) ⟨v4 (by omega), ?_⟩
    rw [show Int.toNat 0 = 0 from rfl, show Int.toNat 1 = 1 from rfl, show Int.toNat 2 = 2 from rfl, show Int.toNat 3 = 3 from rfl]
    refine g _ _ (HA4 ?_ ?_ ?_ ?_) (HA4 ?_ ?_ ?_ ?_) <;> simp [upd, hnd, cI_f z, iI_add, iI_sub, iI_mul]
  · refine call_i (hX _ (by omega)) ⟨v4 (by omega), fun w => absurd z w, fun _ => ?_⟩
    refine call_i (hY _ (by omega)) ⟨v4 (by omega), fun w => absurd z w, fun _ => ?_⟩
    refine call_i (hX _ (by omega)) ⟨v4 (by omega), fun w => absurd z w, fun _ => ?_⟩
    refine call_i (hY _ (by omega)) ⟨v4 (by omega), ?_⟩
    rw [show Int.toNat 0 = 0 from rfl, show Int.toNat 1 = 1 from rfl, show Int.toNat 2 = 2 from rfl, show Int.toNat 3 = 3 from rfl]
    refine g _ _ (HA4 ?_ ?_ ?_ ?_) (HA4 ?_ ?_ ?_ ?_) <;> simp [upd, hnd, cI_t z, iI_add, iI_sub, iI_mul]
