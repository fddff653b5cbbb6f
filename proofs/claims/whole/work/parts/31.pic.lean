-- the picture: W by H samples, C their colours, 0 outside
abbrev Ins (W H : Nat) (C : Nat → Nat → Int) (l x y : Int) : Prop := 0 ≤ x ∧ x < W ∧ 0 ≤ y ∧ y < H ∧ l ≤ C x.toNat y.toNat
-- both sides' rows hold the colours
def Pic (W H : Nat) (C : Nat → Nat → Int) : Prop := (1 ≤ W ∧ W ≤ 16) ∧ (1 ≤ H ∧ H ≤ 16) ∧ (∀ x y, 0 ≤ C x y ∧ C x y ≤ 7) ∧ (∀ x y, ¬ (x < W ∧ y < H) → C x y = 0)
def PicC (W H : Nat) (C : Nat → Nat → Int) (n : Nat) (f : Nat → Int32) : Prop := n = W * H ∧ ∀ x y, x < W → y < H → f (y * W + x) = iI (C x y)
def PicM (C : Nat → Nat → Int) (f : Nat → Int32) : Prop := ∀ x y, x < 16 → y < 16 → f (16 * y + x) = iI (C x y)
theorem t_P_isInside {W H : Nat} {C : Nat → Nat → Int} {n : Nat} {f : Nat → Int32} {x y l : Int} {post : Int32 → Unit → Prop} (hp : Pic W H C) (hc : PicC W H C n f) (hx : -1000 ≤ x ∧ x < 1000) (hy : -1000 ≤ y ∧ y < 1000) (hl : 0 ≤ l ∧ l ≤ 8) (g : post (bI (Ins W H C l x y)) ()) : wp_P_isInside n (iI W) (iI H) f (iI x) (iI y) (iI l) post := by
  obtain ⟨hW, hH, hC, -⟩ := hp
  obtain ⟨hn, hf⟩ := hc
  unfold wp_P_isInside wp_P_isInside_J30
  refine call_i (fun Q q => t_P_has (by omega) (by omega) (by omega) (by omega) q) ?_
  simp only [iI_lit, iI_neg, iI_add, iI_sub, iI_mul, iI_nI, iI_ofNat, iI_lt, iI_le, iI_eq, iI_cl, bI_0, bI_1, forall_eq, forall_eq_apply_imp_iff, not_true_eq_false, not_false_eq_true, ne_eq, Classical.not_not]
  refine ⟨fun q => ?_, fun q => ?_⟩
  · rwa [bI_f (by omega)] at g
  · have e : (y * (W : Int) + x).toNat = y.toNat * W + x.toNat := by
      have : y * (W : Int) + x = ((y.toNat * W + x.toNat : Nat) : Int) := by
        rw [Int.natCast_add, Int.natCast_mul, Int.toNat_of_nonneg (by omega), Int.toNat_of_nonneg (by omega)]
      rw [this]; exact Int.toNat_natCast _
    have e1 := hf x.toNat y.toNat (by omega) (by omega)
    have e2 := ix_lt (x := x.toNat) (y := y.toNat) (W := W) (H := H) (by omega) (by omega)
    have e3 := Nat.mul_le_mul hW.2 hH.2
    have e4 := hC x.toNat y.toNat
    have e5 : 0 ≤ y * (W : Int) := Int.mul_nonneg (by omega) (by omega)
    simp (disch := omega) only [iI_lit, iI_neg, iI_add, iI_sub, iI_mul, iI_nI, iI_ofNat, iI_lt, iI_le, iI_eq, iI_cl, bI_0, bI_1, forall_eq, forall_eq_apply_imp_iff, not_true_eq_false, not_false_eq_true, ne_eq, Classical.not_not, e, e1]
    refine ⟨iI_in (by omega) (by omega) (by omega), fun q' => ?_, fun q' => ?_⟩
    · rwa [bI_f (by omega)] at g
    · rwa [bI_t (by omega)] at g
theorem t_M_isSample {W H : Nat} {x y : Int} {post : Int32 → Unit → Prop} (hW : 1 ≤ W ∧ W ≤ 16) (hH : 1 ≤ H ∧ H ≤ 16) (hx : (-2147483648 ≤ x ∧ x < 2147483648)) (hy : (-2147483648 ≤ y ∧ y < 2147483648)) (g : post (bI (0 ≤ x ∧ x < W ∧ 0 ≤ y ∧ y < H)) ()) : wp_M_isSample (iI W) (iI H) (iI x) (iI y) post := by
  unfold wp_M_isSample wp_M_isSample_J32
  simp only [iI_lit, iI_neg, iI_add, iI_sub, iI_mul, iI_nI, iI_ofNat, iI_lt, iI_le, iI_eq, iI_cl, bI_0, bI_1, forall_eq, forall_eq_apply_imp_iff, not_true_eq_false, not_false_eq_true, ne_eq, Classical.not_not]
  refine call_i (fun Q q => t_M_in (by omega) (by omega) (by omega) q) ?_
  simp only [iI_lit, iI_neg, iI_add, iI_sub, iI_mul, iI_nI, iI_ofNat, iI_lt, iI_le, iI_eq, iI_cl, bI_0, bI_1, forall_eq, forall_eq_apply_imp_iff, not_true_eq_false, not_false_eq_true, ne_eq, Classical.not_not]
  refine ⟨fun q => ?_, fun q => ?_⟩
  · rwa [bI_f (by omega)] at g
  · refine call_i (fun Q q => t_M_in (by omega) (by omega) (by omega) q) ?_
    simp only [iI_lit, iI_neg, iI_add, iI_sub, iI_mul, iI_nI, iI_ofNat, iI_lt, iI_le, iI_eq, iI_cl, bI_0, bI_1, forall_eq, forall_eq_apply_imp_iff, not_true_eq_false, not_false_eq_true, ne_eq, Classical.not_not]
    refine ⟨fun q => ?_, fun q => ?_⟩
    · rwa [bI_f (by omega)] at g
    · rwa [bI_t (by omega)] at g
theorem t_M_isInside {W H : Nat} {C : Nat → Nat → Int} {f : Nat → Int32} {x y l : Int} {post : Int32 → Unit → Prop} (hp : Pic W H C) (hf : PicM C f) (hx : -1000 ≤ x ∧ x < 1000) (hy : -1000 ≤ y ∧ y < 1000) (hl : 0 ≤ l ∧ l ≤ 8) (g : post (bI (Ins W H C l x y)) ()) : wp_M_isInside 256 (iI W) (iI H) f (iI l) (iI x) (iI y) post := by
  obtain ⟨hW, hH, hC, -⟩ := hp
  unfold wp_M_isInside wp_M_isInside_J28
  refine call_i (fun Q q => t_M_isSample (by omega) (by omega) (by omega) (by omega) q) ?_
  simp only [iI_lit, iI_neg, iI_add, iI_sub, iI_mul, iI_nI, iI_ofNat, iI_lt, iI_le, iI_eq, iI_cl, bI_0, bI_1, forall_eq, forall_eq_apply_imp_iff, not_true_eq_false, not_false_eq_true, ne_eq, Classical.not_not]
  refine ⟨fun q => ?_, fun q => ?_⟩
  · rwa [bI_f (by omega)] at g
  · have e : (16 * y + x).toNat = 16 * y.toNat + x.toNat := by omega
    have e1 := hf x.toNat y.toNat (by omega) (by omega)
    have e4 := hC x.toNat y.toNat
    simp (disch := omega) only [iI_lit, iI_neg, iI_add, iI_sub, iI_mul, iI_nI, iI_ofNat, iI_lt, iI_le, iI_eq, iI_cl, bI_0, bI_1, forall_eq, forall_eq_apply_imp_iff, not_true_eq_false, not_false_eq_true, ne_eq, Classical.not_not, e, e1]
    refine ⟨iI_in (by omega) (by omega) (by omega), fun q' => ?_, fun q' => ?_⟩
    · rwa [bI_f (by omega)] at g
    · rwa [bI_t (by omega)] at g
