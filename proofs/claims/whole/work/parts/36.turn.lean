-- where the walk turns: both sides
noncomputable def rR (W H : Nat) (C : Nat → Nat → Int) (l x y : Int) : Nat → Int := sm (fun c => cI (Ins W H C l (x - 2 + c) y) 1 0)
noncomputable def rN (W H : Nat) (C : Nat → Nat → Int) (l x y : Int) : Nat → Int := sm (fun r => rR W H C l x (y - 2 + r) 4)
theorem rR_b (W H : Nat) (C : Nat → Nat → Int) (l x y : Int) (n : Nat) : 0 ≤ rR W H C l x y n ∧ rR W H C l x y n ≤ n := by
  have := sm_b (f := fun c : Nat => cI (Ins W H C l (x - 2 + c) y) 1 0) (n := n) (lo := 0) (hi := 1) (fun i _ => cI_s (P := fun z => (0:Int) ≤ z ∧ z ≤ 1) (fun _ => by omega) (fun _ => by omega))
  unfold rR; omega
theorem rN_b (W H : Nat) (C : Nat → Nat → Int) (l x y : Int) (n : Nat) : 0 ≤ rN W H C l x y n ∧ rN W H C l x y n ≤ 4 * n := by
  have := sm_b (f := fun r : Nat => rR W H C l x (y - 2 + r) 4) (n := n) (lo := 0) (hi := 4) (fun i _ => by have := rR_b W H C l x (y - 2 + i) 4; omega)
  unfold rN; omega
def TT (W H : Nat) (C : Nat → Nat → Int) (l t x y : Int) : Prop := t = 0 ∨ (t = 2 ∧ rN W H C l x y 4 ≤ 8) ∨ (t = 3 ∧ (x + y) % 2 = 0)
noncomputable def tD (J T : Int → Int → Prop) (x y d : Int) : Int := cI (sR J (x, y, d)) (cI (sL J (x, y, d)) (dL d) d) (cI (sL J (x, y, d) ∧ T x y) (dL d) (dR d))
theorem t_U_insideRound {W H : Nat} {C : Nat → Nat → Int} {n : Nat} {f : Nat → Int32} {x y l : Int} {post : Int32 → Unit → Prop} (hp : Pic W H C) (hc : PicC W H C n f) (hx : -500 ≤ x ∧ x < 500) (hy : -500 ≤ y ∧ y < 500) (hl : 0 ≤ l ∧ l ≤ 8) (g : post (iI (rN W H C l x y 4)) ()) : wp_U_insideRound n (iI W) (iI H) f (iI x) (iI y) (iI l) post := by
  unfold wp_U_insideRound
  simp only [iI_lit, iI_neg, iI_add, iI_sub, iI_mul, iI_nI, iI_ofNat, iI_lt, iI_le, iI_eq, iI_cl, bI_0, bI_1, forall_eq, forall_eq_apply_imp_iff, not_true_eq_false, not_false_eq_true, ne_eq, Classical.not_not]
  refine lp_n (fun k z => z.1 = iI (rN W H C l x y k) ∧ z.2 = iI (y - 2 + k)) 4 ⟨0, by omega, rfl, by show iI _ = iI _; congr 1; simp⟩ ?_
  rintro k ⟨a, b⟩ back hk ⟨h1, h2⟩ hback
  have h1 : a = _ := h1; have h2 : b = _ := h2; subst h1; subst h2
  have hb := rN_b W H C l x y k
  simp (disch := omega) only [wp_U_insideRound_L8, iI_lit, iI_neg, iI_add, iI_sub, iI_mul, iI_nI, iI_ofNat, iI_lt, iI_le, iI_eq, iI_cl, bI_0, bI_1, forall_eq, forall_eq_apply_imp_iff, not_true_eq_false, not_false_eq_true, ne_eq, Classical.not_not]
  refine ⟨fun q => by obtain rfl : k = 4 := by omega
                      exact g, fun q => ?_⟩
  refine lp_n (fun i z => z.1 = iI (rN W H C l x y k + rR W H C l x (y - 2 + k) i) ∧ z.2 = iI (x - 2 + i)) 4 ⟨0, by omega, by show iI _ = iI _; congr 1; simp [rR, sm], by show iI _ = iI _; congr 1; simp⟩ ?_
  rintro i ⟨a, b⟩ back2 hi ⟨h1, h2⟩ hback2
  have h1 : a = _ := h1; have h2 : b = _ := h2; subst h1; subst h2
  have hr := rR_b W H C l x (y - 2 + k) i
  simp (disch := omega) only [wp_U_insideRound_L21, wp_U_insideRound_J47, iI_lit, iI_neg, iI_add, iI_sub, iI_mul, iI_nI, iI_ofNat, iI_lt, iI_le, iI_eq, iI_cl, bI_0, bI_1, forall_eq, forall_eq_apply_imp_iff, not_true_eq_false, not_false_eq_true, ne_eq, Classical.not_not]
  refine ⟨fun q => ?_, fun q => ?_⟩
  · obtain rfl : i = 4 := by omega
    refine hback _ (by omega) ⟨rfl, ?_⟩
    show iI _ = iI _; congr 1; omega
  · refine call_i (fun Q q => t_P_isInside hp hc (by omega) (by omega) hl q) ?_
    simp only [iI_lit, iI_neg, iI_add, iI_sub, iI_mul, iI_nI, iI_ofNat, iI_lt, iI_le, iI_eq, iI_cl, bI_0, bI_1, forall_eq, forall_eq_apply_imp_iff, not_true_eq_false, not_false_eq_true, ne_eq, Classical.not_not]
    refine ⟨fun q2 => hback2 _ (by omega) ⟨?_, ?_⟩, fun q2 => hback2 _ (by omega) ⟨?_, ?_⟩⟩
    · show iI _ = iI (rN W H C l x y k + (rR W H C l x (y - 2 + k) i + cI _ 1 0)); rw [cI_f q2]; congr 1; omega
    · show iI _ = iI _; congr 1; omega
    · show iI _ = iI (rN W H C l x y k + (rR W H C l x (y - 2 + k) i + cI _ 1 0)); rw [cI_t q2]; congr 1; omega
    · show iI _ = iI _; congr 1; omega
theorem t_U_turnsLeft {W H : Nat} {C : Nat → Nat → Int} {n : Nat} {f : Nat → Int32} {x y l t : Int} {post : Int32 → Unit → Prop} (hp : Pic W H C) (hc : PicC W H C n f) (hx : -500 ≤ x ∧ x < 500) (hy : -500 ≤ y ∧ y < 500) (hl : 0 ≤ l ∧ l ≤ 8) (ht : 0 ≤ t ∧ t ≤ 3) (g : post (bI (TT W H C l t x y)) ()) : wp_U_turnsLeft n (iI W) (iI H) f (iI x) (iI y) (iI l) (iI t) post := by
  unfold wp_U_turnsLeft
  simp (disch := omega) only [iI_lit, iI_neg, iI_add, iI_sub, iI_mul, iI_nI, iI_ofNat, iI_lt, iI_le, iI_eq, iI_cl, bI_0, bI_1, forall_eq, forall_eq_apply_imp_iff, not_true_eq_false, not_false_eq_true, ne_eq, Classical.not_not, iI_and1]
  have hb := rN_b W H C l x y 4
  refine ⟨fun q => ?_, fun q => ?_, fun q => ?_, fun q1 q2 q3 => ⟨fun q => ?_, fun q => ?_⟩⟩
  · rwa [bI_t (by unfold TT; omega)] at g
  · rwa [bI_f (by unfold TT; omega)] at g
  · refine call_i (fun Q q => t_U_insideRound hp hc hx hy hl q) ?_
    simp (disch := omega) only [iI_lit, iI_neg, iI_add, iI_sub, iI_mul, iI_nI, iI_ofNat, iI_lt, iI_le, iI_eq, iI_cl, bI_0, bI_1, forall_eq, forall_eq_apply_imp_iff, not_true_eq_false, not_false_eq_true, ne_eq, Classical.not_not]
    refine ⟨fun q2 => ?_, fun q2 => ?_⟩
    · rwa [bI_f (by unfold TT; omega)] at g
    · rwa [bI_t (by unfold TT; omega)] at g
  · rwa [bI_f (by unfold TT; omega)] at g
  · rwa [bI_t (by unfold TT; omega)] at g
theorem tb_aX {d : Int} (h : 0 ≤ d ∧ d ≤ 3) : tb_AHEAD_X d.toNat = iI (aX d) := by
  rcases d4 h with rfl | rfl | rfl | rfl <;> rw [iI_d] <;> decide +kernel
theorem tb_aY {d : Int} (h : 0 ≤ d ∧ d ≤ 3) : tb_AHEAD_Y d.toNat = iI (aY d) := by
  rcases d4 h with rfl | rfl | rfl | rfl <;> rw [iI_d] <;> decide +kernel
theorem tb_sX {d : Int} (h : 0 ≤ d ∧ d ≤ 3) : tb_STEP_X d.toNat = iI (ddx d) := by
  rcases d4 h with rfl | rfl | rfl | rfl <;> rw [iI_d] <;> decide +kernel
theorem tb_sY {d : Int} (h : 0 ≤ d ∧ d ≤ 3) : tb_STEP_Y d.toNat = iI (ddy d) := by
  rcases d4 h with rfl | rfl | rfl | rfl <;> rw [iI_d] <;> decide +kernel
theorem aXY_b (d : Int) : (-1 ≤ aX d ∧ aX d ≤ 0) ∧ (-1 ≤ aY d ∧ aY d ≤ 0) := by unfold aX aY; constructor <;> constructor <;> split <;> (try split) <;> omega
theorem dL_b {d : Int} (h : 0 ≤ d ∧ d ≤ 3) : 0 ≤ dL d ∧ dL d ≤ 3 := by unfold dL; split <;> omega
theorem dR_b {d : Int} (h : 0 ≤ d ∧ d ≤ 3) : 0 ≤ dR d ∧ dR d ≤ 3 := by unfold dR; split <;> omega
theorem dL_m {d : Int} (h : 0 ≤ d ∧ d ≤ 3) : (d + 3) % 4 = dL d := by unfold dL; split <;> omega
theorem dR_m {d : Int} (h : 0 ≤ d ∧ d ≤ 3) : (d + 1) % 4 = dR d := by unfold dR; split <;> omega
theorem t_U_directionFrom {W H : Nat} {C : Nat → Nat → Int} {n : Nat} {f : Nat → Int32} {x y l t d : Int} {post : Int32 → Unit → Prop} (hp : Pic W H C) (hc : PicC W H C n f) (hx : -400 ≤ x ∧ x < 400) (hy : -400 ≤ y ∧ y < 400) (hl : 0 ≤ l ∧ l ≤ 8) (ht : 0 ≤ t ∧ t ≤ 3) (hd : 0 ≤ d ∧ d ≤ 3) (g : post (iI (tD (Ins W H C l) (TT W H C l t) x y d)) ()) : wp_U_directionFrom n (iI W) (iI H) f (iI x) (iI y) (iI d) (iI l) (iI t) post := by
  have b1 := aXY_b d; have b2 := aXY_b (dL d); have b3 := dL_b hd; have b4 := dR_b hd
  unfold wp_U_directionFrom wp_U_directionFrom_J106
  simp (disch := omega) only [iI_lit, iI_neg, iI_add, iI_sub, iI_mul, iI_nI, iI_ofNat, iI_lt, iI_le, iI_eq, iI_cl, bI_0, bI_1, forall_eq, forall_eq_apply_imp_iff, not_true_eq_false, not_false_eq_true, ne_eq, Classical.not_not, iI_and3, dL_m hd, dR_m hd, tb_aX hd, tb_aY hd, tb_aX b3, tb_aY b3]
  refine ⟨iI_in (by omega) (by omega) (by omega), iI_in (by omega) (by omega) (by omega), ?_⟩
  refine call_i (fun Q q => t_P_isInside hp hc (by omega) (by omega) hl q) ?_
  refine ⟨iI_in (by omega) (by omega) (by omega), iI_in (by omega) (by omega) (by omega), ?_⟩
  refine call_i (fun Q q => t_P_isInside hp hc (by omega) (by omega) hl q) ?_
  simp only [iI_lit, iI_neg, iI_add, iI_sub, iI_mul, iI_nI, iI_ofNat, iI_lt, iI_le, iI_eq, iI_cl, bI_0, bI_1, forall_eq, forall_eq_apply_imp_iff, not_true_eq_false, not_false_eq_true, ne_eq, Classical.not_not]
  have eR : sR (Ins W H C l) (x, y, d) = Ins W H C l (x + aX d) (y + aY d) := rfl
  have eL : sL (Ins W H C l) (x, y, d) = Ins W H C l (x + aX (dL d)) (y + aY (dL d)) := rfl
  rw [← eR, ← eL]
  unfold tD at g
  refine ⟨fun q => ⟨fun q2 => ?_, fun q2 => ?_⟩, fun q => ⟨fun q2 => ?_, fun q2 => ?_⟩⟩
  · rwa [cI_f q, cI_f (fun z => q2 z.1)] at g
  · refine call_i (fun Q q => t_U_turnsLeft hp hc (by omega) (by omega) hl ht q) ?_
    simp only [iI_lit, iI_neg, iI_add, iI_sub, iI_mul, iI_nI, iI_ofNat, iI_lt, iI_le, iI_eq, iI_cl, bI_0, bI_1, forall_eq, forall_eq_apply_imp_iff, not_true_eq_false, not_false_eq_true, ne_eq, Classical.not_not]
    refine ⟨fun q3 => ?_, fun q3 => ?_⟩
    · rwa [cI_f q, cI_f (fun z => q3 z.2)] at g
    · rwa [cI_f q, cI_t ⟨q2, q3⟩] at g
  · rwa [cI_t q, cI_f q2] at g
  · rwa [cI_t q, cI_t q2] at g
theorem t_M_stepX {d : Int} {post : Int32 → Unit → Prop} (h : 0 ≤ d ∧ d ≤ 3) (g : post (iI (ddx d)) ()) : wp_M_stepX (iI d) post := by
  unfold wp_M_stepX
  simp (disch := omega) only [iI_lit, iI_neg, iI_add, iI_sub, iI_mul, iI_nI, iI_ofNat, iI_lt, iI_le, iI_eq, iI_cl, bI_0, bI_1, forall_eq, forall_eq_apply_imp_iff, not_true_eq_false, not_false_eq_true, ne_eq, Classical.not_not]
  unfold ddx at g
  grind
theorem t_M_stepY {d : Int} {post : Int32 → Unit → Prop} (h : 0 ≤ d ∧ d ≤ 3) (g : post (iI (ddy d)) ()) : wp_M_stepY (iI d) post := by
  unfold wp_M_stepY
  simp (disch := omega) only [iI_lit, iI_neg, iI_add, iI_sub, iI_mul, iI_nI, iI_ofNat, iI_lt, iI_le, iI_eq, iI_cl, bI_0, bI_1, forall_eq, forall_eq_apply_imp_iff, not_true_eq_false, not_false_eq_true, ne_eq, Classical.not_not]
  unfold ddy at g
  grind
theorem t_M_aheadR {W H : Nat} {C : Nat → Nat → Int} {f : Nat → Int32} {x y l d : Int} {post : Int32 → Unit → Prop} (hp : Pic W H C) (hc : PicM C f) (hx : -400 ≤ x ∧ x < 400) (hy : -400 ≤ y ∧ y < 400) (hl : 0 ≤ l ∧ l ≤ 8) (hd : 0 ≤ d ∧ d ≤ 3) (g : post (bI (sR (Ins W H C l) (x, y, d))) ()) : wp_M_ahead 256 (iI W) (iI H) f (iI l) (iI x) (iI y) (iI d) (iI 1) post := by
  have key : ∀ a b : Int, -500 ≤ a ∧ a < 500 → -500 ≤ b ∧ b < 500 → a = x + aX d → b = y + aY d → wp_M_ahead_J90 256 (iI W) (iI H) f (iI l) (iI a) (iI b) post := by
    intro a b ha hb ea eb
    unfold wp_M_ahead_J90
    refine call_i (fun Q q => t_M_isInside hp hc (by omega) (by omega) hl q) ?_
    simp only [iI_lit, iI_neg, iI_add, iI_sub, iI_mul, iI_nI, iI_ofNat, iI_lt, iI_le, iI_eq, iI_cl, bI_0, bI_1, forall_eq, forall_eq_apply_imp_iff, not_true_eq_false, not_false_eq_true, ne_eq, Classical.not_not]
    refine ⟨?_, ?_⟩
    · exact Classical.em _ |>.symm
    · rw [ea, eb]; exact g
  unfold wp_M_ahead wp_M_ahead_J32 wp_M_ahead_J44 wp_M_ahead_J78
  simp (disch := omega) only [iI_lit, iI_neg, iI_add, iI_sub, iI_mul, iI_nI, iI_ofNat, iI_lt, iI_le, iI_eq, iI_cl, bI_0, bI_1, forall_eq, forall_eq_apply_imp_iff, not_true_eq_false, not_false_eq_true, ne_eq, Classical.not_not]
  rcases d4 hd with rfl | rfl | rfl | rfl <;> simp only [aX, aY] at key <;> grind
theorem t_M_aheadL {W H : Nat} {C : Nat → Nat → Int} {f : Nat → Int32} {x y l d : Int} {post : Int32 → Unit → Prop} (hp : Pic W H C) (hc : PicM C f) (hx : -400 ≤ x ∧ x < 400) (hy : -400 ≤ y ∧ y < 400) (hl : 0 ≤ l ∧ l ≤ 8) (hd : 0 ≤ d ∧ d ≤ 3) (g : post (bI (sL (Ins W H C l) (x, y, d))) ()) : wp_M_ahead 256 (iI W) (iI H) f (iI l) (iI x) (iI y) (iI d) (iI 0) post := by
  have key : ∀ a b : Int, -500 ≤ a ∧ a < 500 → -500 ≤ b ∧ b < 500 → a = x + aX (dL d) → b = y + aY (dL d) → wp_M_ahead_J90 256 (iI W) (iI H) f (iI l) (iI a) (iI b) post := by
    intro a b ha hb ea eb
    unfold wp_M_ahead_J90
    refine call_i (fun Q q => t_M_isInside hp hc (by omega) (by omega) hl q) ?_
    simp only [iI_lit, iI_neg, iI_add, iI_sub, iI_mul, iI_nI, iI_ofNat, iI_lt, iI_le, iI_eq, iI_cl, bI_0, bI_1, forall_eq, forall_eq_apply_imp_iff, not_true_eq_false, not_false_eq_true, ne_eq, Classical.not_not]
    refine ⟨?_, ?_⟩
    · exact Classical.em _ |>.symm
    · rw [ea, eb]; exact g
  unfold wp_M_ahead wp_M_ahead_J32 wp_M_ahead_J44 wp_M_ahead_J78
  simp (disch := omega) only [iI_lit, iI_neg, iI_add, iI_sub, iI_mul, iI_nI, iI_ofNat, iI_lt, iI_le, iI_eq, iI_cl, bI_0, bI_1, forall_eq, forall_eq_apply_imp_iff, not_true_eq_false, not_false_eq_true, ne_eq, Classical.not_not]
  rcases d4 hd with rfl | rfl | rfl | rfl <;> simp only [aX, aY, dL] at key <;> grind
theorem t_M_turnsLeft {W H : Nat} {C : Nat → Nat → Int} {f : Nat → Int32} {x y l t : Int} {post : Int32 → Unit → Prop} (hp : Pic W H C) (hc : PicM C f) (hx : 0 ≤ x ∧ x < 500) (hy : 0 ≤ y ∧ y < 500) (hl : 0 ≤ l ∧ l ≤ 8) (ht : 0 ≤ t ∧ t ≤ 3) (g : post (bI (TT W H C l t x y)) ()) : wp_M_turnsLeft 256 (iI W) (iI H) f (iI l) (iI x) (iI y) (iI t) post := by
  have hb4 := rN_b W H C l x y 4
  have et : (x + y).tmod 2 = (x + y) % 2 := Int.tmod_eq_emod_of_nonneg (by omega)
  unfold wp_M_turnsLeft
  simp (disch := omega) only [iI_lit, iI_neg, iI_add, iI_sub, iI_mul, iI_nI, iI_ofNat, iI_lt, iI_le, iI_eq, iI_cl, bI_0, bI_1, forall_eq, forall_eq_apply_imp_iff, not_true_eq_false, not_false_eq_true, ne_eq, Classical.not_not, iI_rem, et]
  refine ⟨fun q => ⟨fun q2 => ?_, fun q2 => ⟨fun q3 => ?_, fun q3 => ?_⟩⟩, fun q => ⟨fun q2 => ?_, fun q2 => ?_⟩⟩
  · refine lp_n (fun k z => z.1 = iI (rN W H C l x y k) ∧ z.2 = iI (-2 + k)) 4 ⟨0, by omega, rfl, by show iI _ = iI _; congr 1⟩ ?_
    rintro k ⟨a, b⟩ back hk ⟨h1, h2⟩ hback
    have h1 : a = _ := h1; have h2 : b = _ := h2; subst h1; subst h2
    have hb := rN_b W H C l x y k
    simp (disch := omega) only [wp_M_turnsLeft_L44, iI_lit, iI_neg, iI_add, iI_sub, iI_mul, iI_nI, iI_ofNat, iI_lt, iI_le, iI_eq, iI_cl, bI_0, bI_1, forall_eq, forall_eq_apply_imp_iff, not_true_eq_false, not_false_eq_true, ne_eq, Classical.not_not]
    refine ⟨fun q => ?_, fun q => ?_⟩
    · obtain rfl : k = 4 := by omega
      refine ⟨fun q2 => ?_, fun q2 => ?_⟩
      · rwa [bI_f (by unfold TT; omega)] at g
      · rwa [bI_t (by unfold TT; omega)] at g
    refine lp_n (fun i z => z.1 = iI (rN W H C l x y k + rR W H C l x (y - 2 + k) i) ∧ z.2 = iI (-2 + i)) 4 ⟨0, by omega, by show iI _ = iI _; congr 1; simp [rR, sm], by show iI _ = iI _; congr 1⟩ ?_
    rintro i ⟨a, b⟩ back2 hi ⟨h1, h2⟩ hback2
    have h1 : a = _ := h1; have h2 : b = _ := h2; subst h1; subst h2
    have hr := rR_b W H C l x (y - 2 + k) i
    simp (disch := omega) only [wp_M_turnsLeft_L54, wp_M_turnsLeft_J83, iI_lit, iI_neg, iI_add, iI_sub, iI_mul, iI_nI, iI_ofNat, iI_lt, iI_le, iI_eq, iI_cl, bI_0, bI_1, forall_eq, forall_eq_apply_imp_iff, not_true_eq_false, not_false_eq_true, ne_eq, Classical.not_not]
    refine ⟨fun q => ?_, fun q => ?_⟩
    · obtain rfl : i = 4 := by omega
      refine hback _ (by omega) ⟨rfl, ?_⟩
      show iI _ = iI _; congr 1; omega
    · rw [show x + (-2 + (i : Int)) = x - 2 + i by omega, show y + (-2 + (k : Int)) = y - 2 + k by omega]
      refine call_i (fun Q q => t_M_isInside hp hc (by omega) (by omega) hl q) ?_
      simp only [iI_lit, iI_neg, iI_add, iI_sub, iI_mul, iI_nI, iI_ofNat, iI_lt, iI_le, iI_eq, iI_cl, bI_0, bI_1, forall_eq, forall_eq_apply_imp_iff, not_true_eq_false, not_false_eq_true, ne_eq, Classical.not_not]
      refine ⟨fun q2 => hback2 _ (by omega) ⟨?_, ?_⟩, fun q2 => hback2 _ (by omega) ⟨?_, ?_⟩⟩
      · show iI _ = iI (rN W H C l x y k + (rR W H C l x (y - 2 + k) i + cI _ 1 0)); rw [cI_f q2]; congr 1; omega
      · show iI _ = iI _; congr 1; omega
      · show iI _ = iI (rN W H C l x y k + (rR W H C l x (y - 2 + k) i + cI _ 1 0)); rw [cI_t q2]; congr 1; omega
      · show iI _ = iI _; congr 1; omega
  · rwa [bI_f (by unfold TT; omega)] at g
  · rwa [bI_t (by unfold TT; omega)] at g
  · rwa [bI_f (by unfold TT; omega)] at g
  · rwa [bI_t (by unfold TT; omega)] at g
theorem t_M_next {W H : Nat} {C : Nat → Nat → Int} {f : Nat → Int32} {x y l t d : Int} {post : Int32 → Unit → Prop} (hp : Pic W H C) (hc : PicM C f) (hx : 0 ≤ x ∧ x < 400) (hy : 0 ≤ y ∧ y < 400) (hl : 0 ≤ l ∧ l ≤ 8) (ht : 0 ≤ t ∧ t ≤ 3) (hd : 0 ≤ d ∧ d ≤ 3) (g : post (iI (tD (Ins W H C l) (TT W H C l t) x y d)) ()) : wp_M_next 256 (iI W) (iI H) f (iI l) (iI x) (iI y) (iI d) (iI t) post := by
  have e1 : (d + 1).tmod 4 = dR d := by rw [Int.tmod_eq_emod_of_nonneg (by omega)]; exact dR_m hd
  have e3 : (d + 3).tmod 4 = dL d := by rw [Int.tmod_eq_emod_of_nonneg (by omega)]; exact dL_m hd
  unfold wp_M_next wp_M_next_J46 wp_M_next_J50 wp_M_next_J51 wp_M_next_J67 wp_M_next_J68
  simp (disch := omega) only [iI_lit, iI_neg, iI_add, iI_sub, iI_mul, iI_nI, iI_ofNat, iI_lt, iI_le, iI_eq, iI_cl, bI_0, bI_1, forall_eq, forall_eq_apply_imp_iff, not_true_eq_false, not_false_eq_true, ne_eq, Classical.not_not, iI_rem, e1, e3]
  refine call_i (fun Q q => t_M_aheadR hp hc (by omega) (by omega) hl hd q) ?_
  refine call_i (fun Q q => t_M_aheadL hp hc (by omega) (by omega) hl hd q) ?_
  unfold tD at g
  simp only [iI_lit, iI_neg, iI_add, iI_sub, iI_mul, iI_nI, iI_ofNat, iI_lt, iI_le, iI_eq, iI_cl, bI_0, bI_1, forall_eq, forall_eq_apply_imp_iff, not_true_eq_false, not_false_eq_true, ne_eq, Classical.not_not]
  by_cases r : sR (Ins W H C l) (x, y, d) <;> by_cases q : sL (Ins W H C l) (x, y, d)
  · rw [cI_t r, cI_t q] at g; simp [r, q, iI_eq]; exact g
  · rw [cI_t r, cI_f q] at g; simp [r, q, iI_eq]; exact g
  · rw [cI_f r] at g; simp [r, q]
    refine call_i (fun Q q => t_M_turnsLeft hp hc (by omega) (by omega) hl ht q) ?_
    simp only [iI_lit, iI_neg, iI_add, iI_sub, iI_mul, iI_nI, iI_ofNat, iI_lt, iI_le, iI_eq, iI_cl, bI_0, bI_1, forall_eq, forall_eq_apply_imp_iff, not_true_eq_false, not_false_eq_true, ne_eq, Classical.not_not]
    refine ⟨fun q3 => ?_, fun q3 => ?_⟩
    · rwa [cI_f (fun z => q3 z.2)] at g
    · rwa [cI_t ⟨q, q3⟩] at g
  · rw [cI_f r, cI_f (fun z => q z.1)] at g; simp [r, q]; exact g
