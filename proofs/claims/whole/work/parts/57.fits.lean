-- near enough to the polygon's lines
def NRx (X Y : Nat → Int) (N f m : Nat) (x y e : Int) (n : Nat) : Prop := ∃ k, k < n ∧ NLp x y X Y (f + N - 1 + k) e
theorem NRx_s {X Y : Nat → Int} {N f m : Nat} {x y e : Int} {n : Nat} : NRx X Y N f m x y e (n + 1) ↔ (NRx X Y N f m x y e n ∨ NLp x y X Y (f + N - 1 + n) e) := by
  unfold NRx
  constructor
  · rintro ⟨k, h1, h2⟩
    by_cases e : k = n
    · subst e; exact Or.inr h2
    · exact Or.inl ⟨k, by omega, h2⟩
  · rintro (⟨k, h1, h2⟩ | h)
    · exact ⟨k, by omega, h2⟩
    · exact ⟨n, by omega, h⟩
def NRl (X Y : Nat → Int) (N f m : Nat) (x y e : Int) : Prop := NRx X Y N f m x y e (m + 1)
def FT (X Y : Nat → Int) (N f m : Nat) (p e : Int) : Prop := ∀ t : Nat, 1 ≤ t → t < 8 → NRl X Y N f m (cub (hnd X N f m p) t) (cub (hnd Y N f m p) t) e
noncomputable def LPu (X Y : Nat → Int) (N f m : Nat) (e : Int) : Int := cI (∃ p : Nat, 1 ≤ p ∧ p ≤ 64 ∧ FT X Y N f m p e) ((mu (fun p => 1 ≤ p ∧ p ≤ 64 ∧ FT X Y N f m p e) : Nat) : Int) 0
theorem LPu_none {X Y : Nat → Int} {N f m : Nat} {e : Int} (h : ∀ p : Nat, 1 ≤ p → p ≤ 64 → ¬ FT X Y N f m p e) : LPu X Y N f m e = 0 := cI_f (fun ⟨p, p1, p2, p3⟩ => h p p1 p2 p3)
theorem LPu_at {X Y : Nat → Int} {N f m : Nat} {e : Int} {k : Nat} (h1 : 1 ≤ k) (h2 : k ≤ 64) (h3 : FT X Y N f m k e) (h : ∀ p : Nat, 1 ≤ p → p < k → ¬ FT X Y N f m p e) : LPu X Y N f m e = (k : Int) := by
  unfold LPu
  rw [cI_t ⟨k, h1, h2, h3⟩, mu_u (n := k) ⟨h1, h2, h3⟩ (fun p hp w => h p w.1 hp w.2.2)]
theorem LPu_b (X Y : Nat → Int) (N f m : Nat) (e : Int) : 0 ≤ LPu X Y N f m e ∧ LPu X Y N f m e ≤ 64 := by
  unfold LPu
  refine cI_s (P := fun z => 0 ≤ z ∧ z ≤ 64) (fun w => ?_) (fun _ => by omega)
  have := (mu_s w).1
  omega
theorem t_C_nearLines {X Y : Nat → Int} {N S f m : Nat} (hG : PG X Y N) (hS : N ≤ S ∧ S < 10000) {fx fy : Nat → Int32} (hf : ∀ j, j < N → fx j = iI (X j) ∧ fy j = iI (Y j)) (hfN : f < N) (hm : 1 ≤ m ∧ m ≤ 6) {x y e : Int} (hx : (-2147483648 ≤ x ∧ x < 2147483648)) (hy : (-2147483648 ≤ y ∧ y < 2147483648)) (he : 0 ≤ e ∧ e ≤ 64) {post : Int32 → Unit → Prop} (g : post (bI (NRl X Y N f m x y e)) ()) : wp_C_nearLines S S (iI N) fx fy (iI f) (iI m) (iI x) (iI y) (iI e) post := by
  have hN := hG.1
  unfold wp_C_nearLines
  simp (disch := omega) only [iI_lit, iI_neg, iI_add, iI_sub, iI_mul, iI_nI, iI_ofNat, iI_lt, iI_le, iI_eq, iI_cl, bI_0, bI_1, forall_eq, forall_eq_apply_imp_iff, not_true_eq_false, not_false_eq_true, ne_eq, Classical.not_not, true_imp_iff, false_imp_iff, and_true, true_and, Int.reduceEq, Int.reduceLT, Int.reduceLE, Int.reduceNeg, implies_true, lI_i, lI_lit, lI_mul]
  have e1 : ((f : Int) + -1) % (N : Int) = (((f + N - 1) % N : Nat) : Int) := mod_n f N (-1) 1 (by omega)
  refine call_i (fun Q q => t_G_beside (by omega) (by omega) q) ?_
  rw [e1]
  refine lp_n (fun k z => z.1 = iI (((f + N - 1 + k) % N : Nat) : Int) ∧ z.2 = iI k ∧ ¬ NRx X Y N f m x y e k) (m + 1) ⟨0, by omega, rfl, rfl, fun ⟨k, h, _⟩ => absurd h (Nat.not_lt_zero k)⟩ ?_
  rintro k ⟨a, b⟩ back hk ⟨h1, h2, h3⟩ hback
  have h1 : a = _ := h1; have h2 : b = _ := h2; subst h1; subst h2
  simp (disch := omega) only [wp_C_nearLines_L23, iI_lit, iI_neg, iI_add, iI_sub, iI_mul, iI_nI, iI_ofNat, iI_lt, iI_le, iI_eq, iI_cl, bI_0, bI_1, forall_eq, forall_eq_apply_imp_iff, not_true_eq_false, not_false_eq_true, ne_eq, Classical.not_not, true_imp_iff, false_imp_iff, and_true, true_and, Int.reduceEq, Int.reduceLT, Int.reduceLE, Int.reduceNeg, implies_true]
  refine ⟨fun z => ?_, fun z => ?_⟩
  · obtain rfl : k = m + 1 := by omega
    rwa [bI_f (p := NRl X Y N f m x y e) h3] at g
  · have e2 : ((f : Int) + (k : Int)) % (N : Int) = (((f + N - 1 + k + 1) % N : Nat) : Int) := by
      rw [mod_n f N (k' := f + k) (k : Int) 0 (by omega), show f + N - 1 + k + 1 = f + k + N by omega, Nat.add_mod_right]
    refine call_i (fun Q q => t_G_beside (by omega) (by omega) q) ?_
    rw [e2]
    refine call_i (fun Q q => t_C_nearLine hG hS hf (f + N - 1 + k) hx hy q) ?_
    simp only [iI_lit, iI_neg, iI_add, iI_sub, iI_mul, iI_nI, iI_ofNat, iI_lt, iI_le, iI_eq, iI_cl, bI_0, bI_1, forall_eq, forall_eq_apply_imp_iff, not_true_eq_false, not_false_eq_true, ne_eq, Classical.not_not, true_imp_iff, false_imp_iff, and_true, true_and, Int.reduceEq, Int.reduceLT, Int.reduceLE, Int.reduceNeg, implies_true]
    refine ⟨fun w => hback _ (by omega) ⟨rfl, by show iI _ = iI _; congr 1, fun h => ?_⟩, fun w => ?_⟩
    · rcases NRx_s.1 h with h | h
      · exact h3 h
      · exact w h
    · rwa [bI_t (p := NRl X Y N f m x y e) ⟨k, by omega, w⟩] at g
theorem t_M_isNear {N : Nat} {X Y : Nat → Int} {of : Int32} {fk ff fs fx fy px py : Nat → Int32} (hG : PG X Y N) (hX : CRX N X of fk ff fs fx) (hY : CRY N Y of fk ff fs fy) {hx hy : Nat → Int} (hpx : HA hx px) (hpy : HA hy py) (hbx : ∀ i, -1536 ≤ hx i ∧ hx i ≤ 1536) (hby : ∀ i, -1536 ≤ hy i ∧ hy i ≤ 1536) {f m : Nat} (hf : f < 5000) (hm : 1 ≤ m ∧ m ≤ 6) {t e : Int} (ht : 0 ≤ t ∧ t ≤ 8) (he : 0 ≤ e ∧ e ≤ 64) {sh : Prop} {post : Int32 → Unit → Prop} (g : post (bI (NRl X Y N f m (cI sh (shv hx t) (cub hx t)) (cI sh (shv hy t) (cub hy t)) e)) ()) : wp_M_isNear 4 4 512 900 900 3600 3600 of (iI N) px py fk ff fs fx fy (iI f) (iI m) (iI t) (bI sh) (iI e) post := by
  have hN := hG.1
  have bx : -10000000 ≤ cI sh (shv hx t) (cub hx t) ∧ cI sh (shv hx t) (cub hx t) ≤ 10000000 := cI_s (P := fun z => -10000000 ≤ z ∧ z ≤ 10000000) (fun _ => shv_b hbx ht) (fun _ => cub_b hbx ht)
  have by' : -10000000 ≤ cI sh (shv hy t) (cub hy t) ∧ cI sh (shv hy t) (cub hy t) ≤ 10000000 := cI_s (P := fun z => -10000000 ≤ z ∧ z ≤ 10000000) (fun _ => shv_b hby ht) (fun _ => cub_b hby ht)
  unfold wp_M_isNear
  refine call_i (fun Q q => t_M_along hpx ht q) ?_
  simp only [forall_eq]
  refine call_i (fun Q q => t_M_along hpy ht q) ?_
  simp (disch := omega) only [iI_lit, iI_neg, iI_add, iI_sub, iI_mul, iI_nI, iI_ofNat, iI_lt, iI_le, iI_eq, iI_cl, bI_0, bI_1, forall_eq, forall_eq_apply_imp_iff, not_true_eq_false, not_false_eq_true, ne_eq, Classical.not_not, true_imp_iff, false_imp_iff, and_true, true_and, Int.reduceEq, Int.reduceLT, Int.reduceLE, Int.reduceNeg, implies_true, lI_i]
  generalize cI sh (shv hx t) (cub hx t) = x at *
  generalize cI sh (shv hy t) (cub hy t) = y at *
  refine lp_n (fun k z => z.1 = bI (NRx X Y N f m x y e k) ∧ z.2 = iI ((k : Int) - 1)) (m + 1) ⟨0, by omega, (bI_f (fun ⟨k, h, _⟩ => absurd h (Nat.not_lt_zero k))).symm, by show iI _ = iI _; congr 1⟩ ?_
  rintro k ⟨a, b⟩ back hk ⟨h1, h2⟩ hback
  have h1 : a = _ := h1; have h2 : b = _ := h2; subst h1; subst h2
  simp (disch := omega) only [wp_M_isNear_L32, wp_M_isNear_J65, wp_M_isNear_J70, iI_lit, iI_neg, iI_add, iI_sub, iI_mul, iI_nI, iI_ofNat, iI_lt, iI_le, iI_eq, iI_cl, bI_0, bI_1, forall_eq, forall_eq_apply_imp_iff, not_true_eq_false, not_false_eq_true, ne_eq, Classical.not_not, true_imp_iff, false_imp_iff, and_true, true_and, Int.reduceEq, Int.reduceLT, Int.reduceLE, Int.reduceNeg, implies_true]
  refine ⟨fun z => ?_, fun z => ?_⟩
  · obtain rfl : k = m + 1 := by omega
    exact ⟨Classical.em _ |>.symm, g⟩
  · have yes : NRx X Y N f m x y e (k + 1) → back (iI 1, iI ((k : Int) - 1 + 1)) := fun w => hback _ (by omega) ⟨(bI_t w).symm, by show iI _ = iI _; congr 1; omega⟩
    have no : ¬ NRx X Y N f m x y e (k + 1) → back (iI 0, iI ((k : Int) - 1 + 1)) := fun w => hback _ (by omega) ⟨(bI_f w).symm, by show iI _ = iI _; congr 1; omega⟩
    refine ⟨fun w => yes (NRx_s.2 (Or.inl w)), fun w => ?_⟩
    rw [show (f : Int) + N + ((k : Int) - 1) = ((f + N - 1 + k : Nat) : Int) by omega]
    refine call_i (fun Q q => t_M_isNearLine hG hX hY (by omega) he q) ?_
    simp only [iI_lit, iI_neg, iI_add, iI_sub, iI_mul, iI_nI, iI_ofNat, iI_lt, iI_le, iI_eq, iI_cl, bI_0, bI_1, forall_eq, forall_eq_apply_imp_iff, not_true_eq_false, not_false_eq_true, ne_eq, Classical.not_not, true_imp_iff, false_imp_iff, and_true, true_and, Int.reduceEq, Int.reduceLT, Int.reduceLE, Int.reduceNeg, implies_true]
    exact ⟨fun w2 => no (fun h => (NRx_s.1 h).elim w w2), fun w2 => yes (NRx_s.2 (Or.inr w2))⟩
theorem t_C_allPlacesNear {X Y : Nat → Int} {N S f m : Nat} {p : Int} (hG : PG X Y N) (hS : N ≤ S ∧ S < 10000) {fx fy hx hy : Nat → Int32} (hf : ∀ j, j < N → fx j = iI (X j) ∧ fy j = iI (Y j)) (hfN : f < N) (hm : 1 ≤ m ∧ m ≤ 6) (hp : 0 ≤ p ∧ p ≤ 64) (hhx : HA (hnd X N f m p) hx) (hhy : HA (hnd Y N f m p) hy) {e : Int} (he : 0 ≤ e ∧ e ≤ 64) {post : Int32 → Unit → Prop} (g : post (bI (FT X Y N f m p e)) ()) : wp_C_allPlacesNear 4 4 S S hx hy (iI N) fx fy (iI f) (iI m) (iI e) post := by
  have hbx := fun i => hnd_b (X := X) (N := N) (fun j => ⟨(hG.2.1 j).1, (hG.2.1 j).2.1⟩) f m hp i
  have hby := fun i => hnd_b (X := Y) (N := N) (fun j => ⟨(hG.2.1 j).2.2.1, (hG.2.1 j).2.2.2⟩) f m hp i
  unfold wp_C_allPlacesNear
  simp only [iI_lit, iI_neg, iI_add, iI_sub, iI_mul, iI_nI, iI_ofNat, iI_lt, iI_le, iI_eq, iI_cl, bI_0, bI_1, forall_eq, forall_eq_apply_imp_iff, not_true_eq_false, not_false_eq_true, ne_eq, Classical.not_not, true_imp_iff, false_imp_iff, and_true, true_and, Int.reduceEq, Int.reduceLT, Int.reduceLE, Int.reduceNeg, implies_true]
  refine lp_n (fun k z => z = iI ((k + 1 : Nat) : Int) ∧ ∀ t : Nat, 1 ≤ t → t < k + 1 → NRl X Y N f m (cub (hnd X N f m p) t) (cub (hnd Y N f m p) t) e) 7 ⟨0, by omega, rfl, fun t h1 h2 => by omega⟩ ?_
  rintro k a back hk ⟨h1, h2⟩ hback
  have h1 : a = _ := h1; subst h1
  simp (disch := omega) only [wp_C_allPlacesNear_L3, iI_lit, iI_neg, iI_add, iI_sub, iI_mul, iI_nI, iI_ofNat, iI_lt, iI_le, iI_eq, iI_cl, bI_0, bI_1, forall_eq, forall_eq_apply_imp_iff, not_true_eq_false, not_false_eq_true, ne_eq, Classical.not_not, true_imp_iff, false_imp_iff, and_true, true_and, Int.reduceEq, Int.reduceLT, Int.reduceLE, Int.reduceNeg, implies_true]
  refine ⟨fun z => ?_, fun z => ?_⟩
  · obtain rfl : k = 7 := by omega
    rwa [bI_t (p := FT X Y N f m p e) h2] at g
  · have b1 := cub_b hbx (t := ((k + 1 : Nat) : Int)) (by omega); have b2 := cub_b hby (t := ((k + 1 : Nat) : Int)) (by omega)
    refine call_i (fun Q q => t_C_cubicAt hhx q) ?_
    refine call_i (fun Q q => t_C_cubicAt hhy q) ?_
    refine call_i (fun Q q => t_C_nearLines hG hS hf hfN hm (by omega) (by omega) he q) ?_
    simp only [iI_lit, iI_neg, iI_add, iI_sub, iI_mul, iI_nI, iI_ofNat, iI_lt, iI_le, iI_eq, iI_cl, bI_0, bI_1, forall_eq, forall_eq_apply_imp_iff, not_true_eq_false, not_false_eq_true, ne_eq, Classical.not_not, true_imp_iff, false_imp_iff, and_true, true_and, Int.reduceEq, Int.reduceLT, Int.reduceLE, Int.reduceNeg, implies_true]
    refine ⟨fun w => hback _ (by omega) ⟨by show iI _ = iI _; congr 1, fun t t1 t2 => ?_⟩, fun w => ?_⟩
    · by_cases et : t = k + 1
      · rw [et]; exact w
      · exact h2 t t1 (by omega)
    · rwa [bI_f (fun h => w (h (k + 1) (by omega) (by omega)))] at g
theorem t_M_fits {N : Nat} {X Y : Nat → Int} {of : Int32} {fk ff fs fx fy px py : Nat → Int32} (hG : PG X Y N) (hX : CRX N X of fk ff fs fx) (hY : CRY N Y of fk ff fs fy) {f m : Nat} {p e : Int} (hf : f < 5000) (hm : 1 ≤ m ∧ m ≤ 6) (hp : 0 ≤ p ∧ p ≤ 64) (he : 0 ≤ e ∧ e ≤ 64) {post : Int32 → ((Nat → Int32) × (Nat → Int32)) → Prop} (g : ∀ a b, post (bI (FT X Y N f m p e)) (a, b)) : wp_M_fits 512 900 900 3600 4 3600 4 of (iI N) (iI e) fk ff fs fx px fy py (iI f) (iI m) (iI p) post := by
  have hbx := fun i => hnd_b (X := X) (N := N) (fun j => ⟨(hG.2.1 j).1, (hG.2.1 j).2.1⟩) f m hp i
  have hby := fun i => hnd_b (X := Y) (N := N) (fun j => ⟨(hG.2.1 j).2.2.1, (hG.2.1 j).2.2.2⟩) f m hp i
  unfold wp_M_fits
  refine ⟨fun u => HA (hnd X N f m p) u.1 ∧ HA (hnd Y N f m p) u.2, t_M_set hG hX hY (by omega) hm hp (fun a b h1 h2 => ⟨h1, h2⟩), ?_⟩
  rintro a b ⟨ha, hb⟩
  have ha : HA (hnd X N f m p) a := ha
  have hb : HA (hnd Y N f m p) b := hb
  simp only [iI_lit, iI_neg, iI_add, iI_sub, iI_mul, iI_nI, iI_ofNat, iI_lt, iI_le, iI_eq, iI_cl, bI_0, bI_1, forall_eq, forall_eq_apply_imp_iff, not_true_eq_false, not_false_eq_true, ne_eq, Classical.not_not, true_imp_iff, false_imp_iff, and_true, true_and, Int.reduceEq, Int.reduceLT, Int.reduceLE, Int.reduceNeg, implies_true]
  refine lp_n (fun k z => z.1 = bI (∀ t : Nat, 1 ≤ t → t < k + 1 → NRl X Y N f m (cub (hnd X N f m p) t) (cub (hnd Y N f m p) t) e) ∧ z.2 = iI ((k + 1 : Nat) : Int)) 7 ⟨0, by omega, (bI_t (fun t h1 h2 => by omega)).symm, rfl⟩ ?_
  rintro k ⟨u, v⟩ back hk ⟨h1, h2⟩ hback
  have h1 : u = _ := h1; have h2 : v = _ := h2; subst h1; subst h2
  simp (disch := omega) only [wp_M_fits_L13, iI_lit, iI_neg, iI_add, iI_sub, iI_mul, iI_nI, iI_ofNat, iI_lt, iI_le, iI_eq, iI_cl, bI_0, bI_1, forall_eq, forall_eq_apply_imp_iff, not_true_eq_false, not_false_eq_true, ne_eq, Classical.not_not, true_imp_iff, false_imp_iff, and_true, true_and, Int.reduceEq, Int.reduceLT, Int.reduceLE, Int.reduceNeg, implies_true]
  refine ⟨fun z => ?_, fun z => ⟨fun w => ?_, fun w => ?_⟩⟩
  · obtain rfl : k = 7 := by omega
    exact ⟨Classical.em _ |>.symm, g a b⟩
  · refine ⟨Classical.em _ |>.symm, ?_⟩
    have g := g a b
    rwa [bI_c (q := ∀ t : Nat, 1 ≤ t → t < k + 1 → NRl X Y N f m (cub (hnd X N f m p) t) (cub (hnd Y N f m p) t) e) ⟨fun h t t1 t2 => h t t1 (by omega), fun h => absurd h w⟩] at g
  · rw [← bI_f (p := False) (fun h => h)]
    refine call_i (fun Q q => t_M_isNear hG hX hY ha hb hbx hby hf hm (by omega) he q) ?_
    rw [cI_f (fun h => h), cI_f (fun h => h)]
    refine hback _ (by omega) ⟨bI_c ⟨fun h t t1 t2 => ?_, fun h => h (k + 1) (by omega) (by omega)⟩, by show iI _ = iI _; congr 1⟩
    by_cases et : t = k + 1
    · rw [et]; exact h
    · exact w t t1 (by omega)
theorem t_C_leastPull {X Y : Nat → Int} {N S f m : Nat} (hG : PG X Y N) (hS : N ≤ S ∧ S < 10000) {fx fy hx hy : Nat → Int32} (hf : ∀ j, j < N → fx j = iI (X j) ∧ fy j = iI (Y j)) (hfN : f < N) (hm : 1 ≤ m ∧ m ≤ 6) {e : Int} (he : 0 ≤ e ∧ e ≤ 64) {post : Int32 → ((Nat → Int32) × (Nat → Int32)) → Prop} (g : ∀ a b, post (iI (LPu X Y N f m e)) (a, b)) : wp_C_leastPull S 4 S 4 (iI N) fx hx fy hy (iI f) (iI m) (iI e) post := by
  unfold wp_C_leastPull
  simp only [iI_lit, iI_neg, iI_add, iI_sub, iI_mul, iI_nI, iI_ofNat, iI_lt, iI_le, iI_eq, iI_cl, bI_0, bI_1, forall_eq, forall_eq_apply_imp_iff, not_true_eq_false, not_false_eq_true, ne_eq, Classical.not_not, true_imp_iff, false_imp_iff, and_true, true_and, Int.reduceEq, Int.reduceLT, Int.reduceLE, Int.reduceNeg, implies_true]
  refine lp_n (fun k z => z.1 = iI ((k + 1 : Nat) : Int) ∧ ∀ p : Nat, 1 ≤ p → p < k + 1 → ¬ FT X Y N f m p e) 64 ⟨0, by omega, rfl, fun p h1 h2 => by omega⟩ ?_
  rintro k ⟨a, hx1, hy1⟩ back hk ⟨h1, h2⟩ hback
  have h1 : a = _ := h1; subst h1
  simp (disch := omega) only [wp_C_leastPull_L3, iI_lit, iI_neg, iI_add, iI_sub, iI_mul, iI_nI, iI_ofNat, iI_lt, iI_le, iI_eq, iI_cl, bI_0, bI_1, forall_eq, forall_eq_apply_imp_iff, not_true_eq_false, not_false_eq_true, ne_eq, Classical.not_not, true_imp_iff, false_imp_iff, and_true, true_and, Int.reduceEq, Int.reduceLT, Int.reduceLE, Int.reduceNeg, implies_true]
  refine ⟨fun z => ?_, fun z => ?_⟩
  · obtain rfl : k = 64 := by omega
    have g := g hx1 hy1
    rwa [LPu_none (fun p p1 p2 => h2 p p1 (by omega))] at g
  · refine ⟨fun u => HA (hnd X N f m ((k + 1 : Nat) : Int)) u.1 ∧ HA (hnd Y N f m ((k + 1 : Nat) : Int)) u.2, t_C_layHand hG hS hf hfN hm (by omega) (fun a b h1 h2 => ⟨h1, h2⟩), ?_⟩
    rintro a b ⟨ha, hb⟩
    refine call_i (fun Q q => t_C_allPlacesNear hG hS hf hfN hm (by omega) ha hb he q) ?_
    simp only [iI_lit, iI_neg, iI_add, iI_sub, iI_mul, iI_nI, iI_ofNat, iI_lt, iI_le, iI_eq, iI_cl, bI_0, bI_1, forall_eq, forall_eq_apply_imp_iff, not_true_eq_false, not_false_eq_true, ne_eq, Classical.not_not, true_imp_iff, false_imp_iff, and_true, true_and, Int.reduceEq, Int.reduceLT, Int.reduceLE, Int.reduceNeg, implies_true]
    refine ⟨fun w => hback _ (by omega) ⟨by show iI _ = iI _; congr 1, fun p p1 p2 => ?_⟩, fun w => ?_⟩
    · by_cases ep : p = k + 1
      · rw [ep]; exact w
      · exact h2 p p1 (by omega)
    · have g := g a b
      rwa [LPu_at (by omega) (by omega) w h2] at g
