-- the reference's answers
theorem cnt_b {W H : Nat} {T : TS} {a : Prop} (hA : a → TB W H 7 T) : 0 ≤ cI a (T.1 : Int) 0 ∧ cI a (T.1 : Int) 0 ≤ 900 :=
  cI_s (P := fun z => 0 ≤ z ∧ z ≤ 900) (fun ha => by have := TB_cnt (hA ha); omega) (fun _ => by omega)
theorem M_about {W H : Nat} {T : TS} {a : Prop} {mp code : Int32} {gf gs gl ga gx gy : Nat → Int32} (hA : a → TB W H 7 T ∧ RM T (iI T.1) mp gf gs gl ga gx gy) {p q : Int} (hp : (-2147483648 ≤ p ∧ p < 2147483648)) (hq : (-2147483648 ≤ q ∧ q < 2147483648)) {post : Int32 → Int32 → Prop} (g : post (iI (cI (ow2 a (inO T p) = 0) (abV T p.toNat q) 0)) (iI (ow2 a (inO T p)))) : wp_M_about 900 900 900 3600 3600 900 code (bI a) (iI (cI a (T.1 : Int) 0)) ga gf gs gx gy gl (iI p) (iI q) post := by
  have hcb := cnt_b (fun ha => (hA ha).1)
  have J : ∀ y : Int, 0 ≤ y ∧ y ≤ 3 → ow2 a (inO T p) = y → wp_M_about_J31 900 900 900 3600 3600 900 (bI a) (iI (cI a (T.1 : Int) 0)) ga gf gs gx gy gl code (iI p) (iI q) (iI y) post := by
    intro y hy hw
    rw [hw] at g
    unfold wp_M_about_J31
    refine rfs hy (fun h0 => ?_) (fun h1 => ?_)
    · rw [cI_t h0, h0] at g
      rw [h0] at hw
      obtain ⟨ha, hi⟩ := w2_i hw
      obtain ⟨hT, hR⟩ := hA ha
      obtain ⟨o, rfl⟩ : ∃ o : Nat, p = (o : Int) := ⟨p.toNat, by have := hi.1; omega⟩
      have ho : o < T.1 := by have := hi.2; omega
      have h1 := TB_o hT ho
      have hr := hR.2.2.1 o ho
      have hv : vp_in (iI (o : Int)) 900 := iI_in (by omega) (by omega) (by omega)
      rw [Int.toNat_natCast] at g
      unfold abV at g
      simp (disch := omega) only [iI_lit, iI_neg, iI_add, iI_sub, iI_mul, iI_nI, iI_ofNat, iI_lt, iI_le, iI_eq, iI_cl, bI_0, bI_1, forall_eq, forall_eq_apply_imp_iff, not_true_eq_false, not_false_eq_true, ne_eq, Classical.not_not, Int.toNat_natCast]
      rw [hr.2.1, hr.2.2.1, hr.2.2.2, cI_t ha]
      refine ⟨fun e0 => ⟨fun e1 => ⟨fun e2 => ⟨fun e3 => ?_, fun e3 => ?_⟩, fun e2 => ⟨hv, ?_⟩⟩, fun e1 => ⟨hv, ?_⟩⟩, fun e0 => ⟨hv, ?_⟩⟩
      · rw [cI_f e0, cI_f e1, cI_f e2, cI_f e3] at g; exact g
      · rw [cI_f e0, cI_f e1, cI_f e2, cI_t e3] at g; exact call_i (fun Q q => t_M_liesIn hT hR ho q) g
      · rw [cI_f e0, cI_f e1, cI_t e2] at g; exact g
      · rw [cI_f e0, cI_t e1] at g; exact g
      · rw [cI_t e0] at g; exact g
    · rw [cI_f (by omega)] at g
      rw [iI_z]; exact g
  unfold wp_M_about
  simp (disch := omega) only [iI_lit, iI_neg, iI_add, iI_sub, iI_mul, iI_nI, iI_ofNat, iI_lt, iI_le, iI_eq, iI_cl, bI_0, bI_1, forall_eq, forall_eq_apply_imp_iff, not_true_eq_false, not_false_eq_true, ne_eq, Classical.not_not]
  refine ⟨fun ha => ?_, fun ha => J 1 (by omega) (w2_1 ha)⟩
  refine call_i (fun Q q => t_M_in hp (by omega) (by omega) q) ?_
  simp only [iI_lit, iI_neg, iI_add, iI_sub, iI_mul, iI_nI, iI_ofNat, iI_lt, iI_le, iI_eq, iI_cl, bI_0, bI_1, forall_eq, forall_eq_apply_imp_iff, not_true_eq_false, not_false_eq_true, ne_eq, Classical.not_not]
  rw [cI_t ha]
  rw [cI_t ha] at J
  exact ⟨fun h => J 0 (by omega) (w2_0 ha ⟨h.1, by omega⟩), fun h => J 2 (by omega) (w2_2 ha (fun w => h ⟨w.1, by have := w.2; omega⟩))⟩
theorem M_point {W H : Nat} {T : TS} {a : Prop} {mp code : Int32} {gf gs gl ga gx gy : Nat → Int32} (hA : a → TB W H 7 T ∧ RM T (iI T.1) mp gf gs gl ga gx gy) {p i ax : Int} (hp : (-2147483648 ≤ p ∧ p < 2147483648)) (hi : (-2147483648 ≤ i ∧ i < 2147483648)) (hx : (-2147483648 ≤ ax ∧ ax < 2147483648)) {post : Int32 → Int32 → Prop} (g : post (iI (cI (ow3 a (oInP T p i) (0 ≤ ax ∧ ax ≤ 1) = 0) (ptV T p i ax) 0)) (iI (ow3 a (oInP T p i) (0 ≤ ax ∧ ax ≤ 1)))) : wp_M_point 900 900 3600 3600 code (bI a) (iI (cI a (T.1 : Int) 0)) gf gs gy gx (iI p) (iI i) (iI ax) post := by
  have hcb := cnt_b (fun ha => (hA ha).1)
  have J : ∀ y : Int, 0 ≤ y ∧ y ≤ 3 → ow3 a (oInP T p i) (0 ≤ ax ∧ ax ≤ 1) = y → wp_M_point_J72 900 900 3600 3600 (bI a) (iI (cI a (T.1 : Int) 0)) gf gs gy gx code (iI p) (iI i) (iI ax) (iI y) post := by
    intro y hy hw
    rw [hw] at g
    unfold wp_M_point_J72
    refine rfs hy (fun h0 => ?_) (fun h1 => ?_)
    · rw [cI_t h0, h0] at g
      rw [h0] at hw
      obtain ⟨ha, hin, hd⟩ := w3_i hw
      obtain ⟨hT, hR⟩ := hA ha
      obtain ⟨o, rfl⟩ : ∃ o : Nat, p = (o : Int) := ⟨p.toNat, by have := hin.1.1; omega⟩
      obtain ⟨j, rfl⟩ : ∃ j : Nat, i = (j : Int) := ⟨i.toNat, by have := hin.2.1; omega⟩
      have ho : o < T.1 := by have := hin.1.2; omega
      have hj : j < nn T o := by have := hin.2.2; rw [Int.toNat_natCast] at this; omega
      have h1 := TB_o hT ho
      unfold ptV at g
      rw [Int.toNat_natCast, Int.toNat_natCast] at g
      simp (disch := omega) only [iI_lit, iI_neg, iI_add, iI_sub, iI_mul, iI_nI, iI_ofNat, iI_lt, iI_le, iI_eq, iI_cl, bI_0, bI_1, forall_eq, forall_eq_apply_imp_iff, not_true_eq_false, not_false_eq_true, ne_eq, Classical.not_not]
      refine ⟨fun e => ?_, fun e => ?_⟩
      · rw [cI_f e] at g; exact call_i (fun Q q => t_M_yAt hT hR ho (by omega) q) g
      · rw [cI_t e] at g; exact call_i (fun Q q => t_M_xAt hT hR ho (by omega) q) g
    · rw [cI_f (by omega)] at g
      rw [iI_z]; exact g
  have J2 : ∀ c : Prop, (a → (c ↔ oInP T p i)) → wp_M_point_J35 900 900 3600 3600 (bI a) (iI (cI a (T.1 : Int) 0)) gf gs gy gx code (iI p) (iI i) (iI ax) (bI c) post := by
    intro c hc
    unfold wp_M_point_J35
    simp only [iI_lit, iI_neg, iI_add, iI_sub, iI_mul, iI_nI, iI_ofNat, iI_lt, iI_le, iI_eq, iI_cl, bI_0, bI_1, forall_eq, forall_eq_apply_imp_iff, not_true_eq_false, not_false_eq_true, ne_eq, Classical.not_not]
    refine ⟨fun ha => ⟨fun h => ?_, fun h => J 2 (by omega) (w3_2 ha (fun w => h ((hc ha).2 w)))⟩, fun ha => J 1 (by omega) (w3_1 ha)⟩
    refine call_i (fun Q q => t_M_in hx (by omega) (by omega) q) ?_
    simp only [iI_lit, iI_neg, iI_add, iI_sub, iI_mul, iI_nI, iI_ofNat, iI_lt, iI_le, iI_eq, iI_cl, bI_0, bI_1, forall_eq, forall_eq_apply_imp_iff, not_true_eq_false, not_false_eq_true, ne_eq, Classical.not_not]
    exact ⟨fun hd => J 0 (by omega) (w3_0 ha ((hc ha).1 h) hd), fun hd => J 3 (by omega) (w3_3 ha ((hc ha).1 h) hd)⟩
  have J0 : ¬ oInP T p i ∨ ¬ a → wp_M_point_J34 900 900 3600 3600 (bI a) (iI (cI a (T.1 : Int) 0)) gf gs gy gx code (iI p) (iI i) (iI ax) post := by
    intro h
    have := J2 False (fun ha => ⟨fun w => w.elim, fun w => h.elim (fun u => u w) (fun u => u ha)⟩)
    rw [bI_f (fun w => w)] at this
    unfold wp_M_point_J34
    rw [iI_z]; exact this
  unfold wp_M_point
  simp (disch := omega) only [iI_lit, iI_neg, iI_add, iI_sub, iI_mul, iI_nI, iI_ofNat, iI_lt, iI_le, iI_eq, iI_cl, bI_0, bI_1, forall_eq, forall_eq_apply_imp_iff, not_true_eq_false, not_false_eq_true, ne_eq, Classical.not_not]
  refine call_i (fun Q q => t_M_in hp (by omega) (by omega) q) ?_
  simp only [iI_lit, iI_neg, iI_add, iI_sub, iI_mul, iI_nI, iI_ofNat, iI_lt, iI_le, iI_eq, iI_cl, bI_0, bI_1, forall_eq, forall_eq_apply_imp_iff, not_true_eq_false, not_false_eq_true, ne_eq, Classical.not_not]
  refine ⟨fun h => J0 ?_, fun h => ?_⟩
  · by_cases ha : a
    · rw [cI_t ha] at h
      exact Or.inl (fun w => h ⟨w.1.1, by have := w.1.2; omega⟩)
    · exact Or.inr ha
  · by_cases ha : a
    · have h2 := h
      rw [cI_t ha] at h2
      obtain ⟨hT, hR⟩ := hA ha
      obtain ⟨o, rfl⟩ : ∃ o : Nat, p = (o : Int) := ⟨p.toNat, by omega⟩
      have ho : o < T.1 := by omega
      have h1 := TB_o hT ho
      have hr := hR.2.2.1 o ho
      rw [Int.toNat_natCast, hr.2.1, show ((T.2.1 (o + 1) - T.2.1 o : Nat)) = nn T o from rfl]
      refine ⟨iI_in (by omega) (by omega) (by omega), ?_⟩
      simp only [iI_lit, iI_neg, iI_add, iI_sub, iI_mul, iI_nI, iI_ofNat, iI_lt, iI_le, iI_eq, iI_cl, bI_0, bI_1, forall_eq, forall_eq_apply_imp_iff, not_true_eq_false, not_false_eq_true, ne_eq, Classical.not_not]
      refine call_i (fun Q q => t_M_in hi (by omega) (by omega) q) ?_
      simp only [iI_lit, iI_neg, iI_add, iI_sub, iI_mul, iI_nI, iI_ofNat, iI_lt, iI_le, iI_eq, iI_cl, bI_0, bI_1, forall_eq, forall_eq_apply_imp_iff, not_true_eq_false, not_false_eq_true, ne_eq, Classical.not_not]
      refine ⟨fun h3 => J0 (Or.inl (fun w => h3 ⟨w.2.1, by have := w.2.2; rw [Int.toNat_natCast] at this; omega⟩)), fun h3 => ?_⟩
      have := J2 True (fun _ => ⟨fun _ => ⟨⟨by omega, by omega⟩, h3.1, by rw [Int.toNat_natCast]; omega⟩, fun _ => trivial⟩)
      rwa [bI_t trivial] at this
    · rw [cI_f ha] at h; omega
theorem M_covered {W H : Nat} {T : TS} {a : Prop} {mp code : Int32} {gf gs gl ga gx gy : Nat → Int32} (hW : 1 ≤ W ∧ W ≤ 16) (hH : 1 ≤ H ∧ H ≤ 16) (hA : a → TB W H 7 T ∧ RM T (iI T.1) mp gf gs gl ga gx gy) {x y : Int} (hx : (-2147483648 ≤ x ∧ x < 2147483648)) (hy : (-2147483648 ≤ y ∧ y < 2147483648)) {post : Int32 → Int32 → Prop} (g : post (iI (cI (ow2 a (smp W H x y) = 0) (cf T x y 7) 0)) (iI (ow2 a (smp W H x y)))) : wp_M_covered 900 900 900 3600 3600 code (iI W) (iI H) (bI a) (iI (cI a (T.1 : Int) 0)) gl gs gf gy gx (iI x) (iI y) post := by
  have J : ∀ v : Int, 0 ≤ v ∧ v ≤ 3 → ow2 a (smp W H x y) = v → wp_M_covered_J26 900 900 900 3600 3600 (iI W) (iI H) (bI a) (iI (cI a (T.1 : Int) 0)) gl gs gf gy gx code (iI x) (iI y) (iI v) post := by
    intro v hv hw
    rw [hw] at g
    unfold wp_M_covered_J26
    refine rfs hv (fun h0 => ?_) (fun h1 => ?_)
    · rw [cI_t h0, h0] at g
      rw [h0] at hw
      obtain ⟨ha, s1, s2, s3, s4⟩ := w2_i hw
      obtain ⟨hT, hR⟩ := hA ha
      rw [iI_z, kl_1, cI_t ha]
      exact t_M_coveredL hT hR (by omega) (by omega) g
    · rw [cI_f (by omega)] at g
      rw [iI_z]; exact g
  unfold wp_M_covered
  simp only [iI_lit, iI_neg, iI_add, iI_sub, iI_mul, iI_nI, iI_ofNat, iI_lt, iI_le, iI_eq, iI_cl, bI_0, bI_1, forall_eq, forall_eq_apply_imp_iff, not_true_eq_false, not_false_eq_true, ne_eq, Classical.not_not]
  refine ⟨fun ha => ?_, fun ha => J 1 (by omega) (w2_1 ha)⟩
  refine call_i (fun Q q => t_M_isSample hW hH hx hy q) ?_
  simp only [iI_lit, iI_neg, iI_add, iI_sub, iI_mul, iI_nI, iI_ofNat, iI_lt, iI_le, iI_eq, iI_cl, bI_0, bI_1, forall_eq, forall_eq_apply_imp_iff, not_true_eq_false, not_false_eq_true, ne_eq, Classical.not_not]
  exact ⟨fun h => J 0 (by omega) (w2_0 ha h), fun h => J 2 (by omega) (w2_2 ha h)⟩
theorem M_piece {W H : Nat} {T : TS} {a : Prop} {mp code : Int32} {gf gs gl ga gx gy : Nat → Int32} (hA : a → TB W H 7 T ∧ RM T (iI T.1) mp gf gs gl ga gx gy) {p i k s : Int} (hp : (-2147483648 ≤ p ∧ p < 2147483648)) (hi : (-2147483648 ≤ i ∧ i < 2147483648)) (hk : (-2147483648 ≤ k ∧ k < 2147483648)) (hs : (-2147483648 ≤ s ∧ s < 2147483648)) {post : Int32 → Int32 → Prop} (g : post (iI (cI (ow3 a (oInP T p i) ((1 ≤ k ∧ k ≤ 24) ∧ 1 ≤ s ∧ s ≤ 8) = 0) (CO T p.toNat i.toNat k.toNat s) 0)) (iI (ow3 a (oInP T p i) ((1 ≤ k ∧ k ≤ 24) ∧ 1 ≤ s ∧ s ≤ 8)))) : wp_M_piece 900 900 3600 3600 code (bI a) (iI (cI a (T.1 : Int) 0)) gf gs gx gy (iI p) (iI i) (iI k) (iI s) post := by
  have hcb := cnt_b (fun ha => (hA ha).1)
  have J : ∀ y : Int, 0 ≤ y ∧ y ≤ 3 → ow3 a (oInP T p i) ((1 ≤ k ∧ k ≤ 24) ∧ 1 ≤ s ∧ s ≤ 8) = y → wp_M_piece_J84 900 900 3600 3600 (bI a) (iI (cI a (T.1 : Int) 0)) gf gs gx gy code (iI p) (iI i) (iI k) (iI s) (iI y) post := by
    intro y hy hw
    rw [hw] at g
    unfold wp_M_piece_J84
    refine rfs hy (fun h0 => ?_) (fun h1 => ?_)
    · rw [cI_t h0, h0] at g
      rw [h0] at hw
      obtain ⟨ha, hin, hd⟩ := w3_i hw
      obtain ⟨hT, hR⟩ := hA ha
      obtain ⟨o, rfl⟩ : ∃ o : Nat, p = (o : Int) := ⟨p.toNat, by have := hin.1.1; omega⟩
      obtain ⟨j, rfl⟩ : ∃ j : Nat, i = (j : Int) := ⟨i.toNat, by have := hin.2.1; omega⟩
      obtain ⟨m, rfl⟩ : ∃ m : Nat, k = (m : Int) := ⟨k.toNat, by have := hd.1.1; omega⟩
      have ho : o < T.1 := by have := hin.1.2; omega
      have hj : j < nn T o := by have := hin.2.2; rw [Int.toNat_natCast] at this; omega
      have h1 := TB_o hT ho
      rw [Int.toNat_natCast, Int.toNat_natCast, Int.toNat_natCast] at g
      exact call_i (fun Q q => t_M_costOf hT hR ho (by omega) (by omega) hd.2 q) g
    · rw [cI_f (by omega)] at g
      rw [iI_z]; exact g
  have J2 : ∀ c : Prop, (a → (c ↔ oInP T p i)) → wp_M_piece_J35 900 900 3600 3600 (bI a) (iI (cI a (T.1 : Int) 0)) gf gs gx gy code (iI p) (iI i) (iI k) (iI s) (bI c) post := by
    intro c hc
    unfold wp_M_piece_J35 wp_M_piece_J79
    simp only [iI_lit, iI_neg, iI_add, iI_sub, iI_mul, iI_nI, iI_ofNat, iI_lt, iI_le, iI_eq, iI_cl, bI_0, bI_1, forall_eq, forall_eq_apply_imp_iff, not_true_eq_false, not_false_eq_true, ne_eq, Classical.not_not]
    refine ⟨fun ha => ⟨fun h => ?_, fun h => J 2 (by omega) (w3_2 ha (fun w => h ((hc ha).2 w)))⟩, fun ha => J 1 (by omega) (w3_1 ha)⟩
    refine call_i (fun Q q => t_M_in hk (by omega) (by omega) q) ?_
    simp only [iI_lit, iI_neg, iI_add, iI_sub, iI_mul, iI_nI, iI_ofNat, iI_lt, iI_le, iI_eq, iI_cl, bI_0, bI_1, forall_eq, forall_eq_apply_imp_iff, not_true_eq_false, not_false_eq_true, ne_eq, Classical.not_not]
    refine ⟨fun hd => J 3 (by omega) (w3_3 ha ((hc ha).1 h) (fun w => hd w.1)), fun hd => ?_⟩
    refine call_i (fun Q q => t_M_in hs (by omega) (by omega) q) ?_
    simp only [iI_lit, iI_neg, iI_add, iI_sub, iI_mul, iI_nI, iI_ofNat, iI_lt, iI_le, iI_eq, iI_cl, bI_0, bI_1, forall_eq, forall_eq_apply_imp_iff, not_true_eq_false, not_false_eq_true, ne_eq, Classical.not_not]
    exact ⟨fun hd2 => J 0 (by omega) (w3_0 ha ((hc ha).1 h) ⟨hd, hd2⟩), fun hd2 => J 3 (by omega) (w3_3 ha ((hc ha).1 h) (fun w => hd2 w.2))⟩
  have J0 : ¬ oInP T p i ∨ ¬ a → wp_M_piece_J34 900 900 3600 3600 (bI a) (iI (cI a (T.1 : Int) 0)) gf gs gx gy code (iI p) (iI i) (iI k) (iI s) post := by
    intro h
    have := J2 False (fun ha => ⟨fun w => w.elim, fun w => h.elim (fun u => u w) (fun u => u ha)⟩)
    rw [bI_f (fun w => w)] at this
    unfold wp_M_piece_J34
    rw [iI_z]; exact this
  unfold wp_M_piece
  simp (disch := omega) only [iI_lit, iI_neg, iI_add, iI_sub, iI_mul, iI_nI, iI_ofNat, iI_lt, iI_le, iI_eq, iI_cl, bI_0, bI_1, forall_eq, forall_eq_apply_imp_iff, not_true_eq_false, not_false_eq_true, ne_eq, Classical.not_not]
  refine call_i (fun Q q => t_M_in hp (by omega) (by omega) q) ?_
  simp only [iI_lit, iI_neg, iI_add, iI_sub, iI_mul, iI_nI, iI_ofNat, iI_lt, iI_le, iI_eq, iI_cl, bI_0, bI_1, forall_eq, forall_eq_apply_imp_iff, not_true_eq_false, not_false_eq_true, ne_eq, Classical.not_not]
  refine ⟨fun h => J0 ?_, fun h => ?_⟩
  · by_cases ha : a
    · rw [cI_t ha] at h
      exact Or.inl (fun w => h ⟨w.1.1, by have := w.1.2; omega⟩)
    · exact Or.inr ha
  · by_cases ha : a
    · have h2 := h
      rw [cI_t ha] at h2
      obtain ⟨hT, hR⟩ := hA ha
      obtain ⟨o, rfl⟩ : ∃ o : Nat, p = (o : Int) := ⟨p.toNat, by omega⟩
      have ho : o < T.1 := by omega
      have h1 := TB_o hT ho
      have hr := hR.2.2.1 o ho
      rw [Int.toNat_natCast, hr.2.1, show ((T.2.1 (o + 1) - T.2.1 o : Nat)) = nn T o from rfl]
      refine ⟨iI_in (by omega) (by omega) (by omega), ?_⟩
      simp only [iI_lit, iI_neg, iI_add, iI_sub, iI_mul, iI_nI, iI_ofNat, iI_lt, iI_le, iI_eq, iI_cl, bI_0, bI_1, forall_eq, forall_eq_apply_imp_iff, not_true_eq_false, not_false_eq_true, ne_eq, Classical.not_not]
      refine call_i (fun Q q => t_M_in hi (by omega) (by omega) q) ?_
      simp only [iI_lit, iI_neg, iI_add, iI_sub, iI_mul, iI_nI, iI_ofNat, iI_lt, iI_le, iI_eq, iI_cl, bI_0, bI_1, forall_eq, forall_eq_apply_imp_iff, not_true_eq_false, not_false_eq_true, ne_eq, Classical.not_not]
      refine ⟨fun h3 => J0 (Or.inl (fun w => h3 ⟨w.2.1, by have := w.2.2; rw [Int.toNat_natCast] at this; omega⟩)), fun h3 => ?_⟩
      have := J2 True (fun _ => ⟨fun _ => ⟨⟨by omega, by omega⟩, h3.1, by rw [Int.toNat_natCast]; omega⟩, fun _ => trivial⟩)
      rwa [bI_t trivial] at this
    · rw [cI_f ha] at h; omega
-- the reference's polygon
def GM (X Y : Nat → Int) (N : Nat) (K : Nat → Nat) (of : Int32) (fk ff fs fx fy : Nat → Int32) : Prop := PG X Y N ∧ CRX N X of fk ff fs fx ∧ CRY N Y of fk ff fs fy ∧ ∀ j, j < N → fk j = iI ((K j : Nat) : Int)
theorem M_corner {X Y : Nat → Int} {N : Nat} {K : Nat → Nat} {b : Prop} {of mc code : Int32} {fk ff fs fx fy : Nat → Int32} (hB : b → mc = iI (N : Int) ∧ GM X Y N K of fk ff fs fx fy) {k q : Int} (hk : (-2147483648 ≤ k ∧ k < 2147483648)) (hq : (-2147483648 ≤ q ∧ q < 2147483648)) {post : Int32 → Int32 → Prop} (g : post (iI (cI (ow2 b (inN N k) = 0) (cnV X Y N K k.toNat q) 0)) (iI (ow2 b (inN N k)))) : wp_M_corner 512 900 900 3600 3600 code (bI b) of mc fk ff fs fx fy (iI k) (iI q) post := by
  have J : ∀ y : Int, 0 ≤ y ∧ y ≤ 3 → ow2 b (inN N k) = y → wp_M_corner_J31 512 900 900 3600 3600 (bI b) of mc fk ff fs fx fy code (iI k) (iI q) (iI y) post := by
    intro y hy hw
    rw [hw] at g
    unfold wp_M_corner_J31
    refine rfs hy (fun h0 => ?_) (fun h1 => ?_)
    · rw [cI_t h0, h0] at g
      rw [h0] at hw
      obtain ⟨hb, hi⟩ := w2_i hw
      obtain ⟨hmc, hG, hX, hY, hF⟩ := hB hb
      have hN := hG.1
      obtain ⟨j, rfl⟩ : ∃ j : Nat, k = (j : Int) := ⟨k.toNat, by have := hi.1; omega⟩
      have hj : j < N := by have := hi.2; omega
      rw [Int.toNat_natCast] at g
      unfold cnV at g
      rw [hmc]
      simp (disch := omega) only [iI_lit, iI_neg, iI_add, iI_sub, iI_mul, iI_nI, iI_ofNat, iI_lt, iI_le, iI_eq, iI_cl, bI_0, bI_1, forall_eq, forall_eq_apply_imp_iff, not_true_eq_false, not_false_eq_true, ne_eq, Classical.not_not, Int.toNat_natCast]
      rw [hF j hj]
      refine ⟨fun e0 => ⟨fun e1 => ⟨fun e2 => ⟨fun e3 => ⟨fun e4 => ?_, fun e4 => ?_⟩, fun e3 => ?_⟩, fun e2 => ?_⟩, fun e1 => ?_⟩, fun e0 => ⟨iI_in (by omega) (by omega) (by omega), ?_⟩⟩
      · rw [cI_f e0, cI_f e1, cI_f e2, cI_f e3, cI_f e4] at g; exact g
      · rw [cI_f e0, cI_f e1, cI_f e2, cI_f e3, cI_t e4] at g; exact call_i (fun Q q => t_M_turnAt hG hX hY (by omega) q) g
      · rw [cI_f e0, cI_f e1, cI_f e2, cI_t e3] at g; exact call_i (fun Q q => t_M_angleAt hG hX hY (by omega) q) g
      · rw [cI_f e0, cI_f e1, cI_t e2] at g; exact call_i (hY j (by omega)) g
      · rw [cI_f e0, cI_t e1] at g; exact call_i (hX j (by omega)) g
      · rw [cI_t e0] at g; exact g
    · rw [cI_f (by omega)] at g
      rw [iI_z]; exact g
  unfold wp_M_corner
  simp only [iI_lit, iI_neg, iI_add, iI_sub, iI_mul, iI_nI, iI_ofNat, iI_lt, iI_le, iI_eq, iI_cl, bI_0, bI_1, forall_eq, forall_eq_apply_imp_iff, not_true_eq_false, not_false_eq_true, ne_eq, Classical.not_not]
  refine ⟨fun hb => ?_, fun hb => J 1 (by omega) (w2_1 hb)⟩
  obtain ⟨hmc, hG, -⟩ := hB hb
  have hN := hG.1
  have e : mc - iI 1 = iI ((N : Int) - 1) := by rw [hmc, iI_sub]
  rw [e]
  refine call_i (fun Q q => t_M_in hk (by omega) (by omega) q) ?_
  simp only [iI_lit, iI_neg, iI_add, iI_sub, iI_mul, iI_nI, iI_ofNat, iI_lt, iI_le, iI_eq, iI_cl, bI_0, bI_1, forall_eq, forall_eq_apply_imp_iff, not_true_eq_false, not_false_eq_true, ne_eq, Classical.not_not]
  exact ⟨fun h => J 0 (by omega) (w2_0 hb ⟨h.1, by omega⟩), fun h => J 2 (by omega) (w2_2 hb (fun w => h ⟨w.1, by have := w.2; omega⟩))⟩
def oCM (X Y : Nat → Int) (N : Nat) (sh er : Int) (of mc cc : Int32) (fk ff fs fx fy gf gm' gs : Nat → Int32) : Prop := mc = iI (N : Int) ∧ cc = iI ((vN X Y N sh er : Nat) : Int) ∧ PG X Y N ∧ CRX N X of fk ff fs fx ∧ CRY N Y of fk ff fs fy ∧ VR X Y N sh er (vN X Y N sh er) gf gm' gs
theorem M_curve {X Y : Nat → Int} {N : Nat} {sh er : Int} {c : Prop} {of mc cc code : Int32} {fk ff fs fx fy px py gf gm' gs : Nat → Int32} (hC : c → oCM X Y N sh er of mc cc fk ff fs fx fy gf gm' gs) {k q : Int} (hk : (-2147483648 ≤ k ∧ k < 2147483648)) (hq : (-2147483648 ≤ q ∧ q < 2147483648)) {post : Int32 → (Int32 × (Nat → Int32) × (Nat → Int32)) → Prop} (g : ∀ u v, post (iI (cI (ow2 c (inN (vN X Y N sh er) k) = 0) (cvV X Y N sh er k.toNat q) 0)) (iI (ow2 c (inN (vN X Y N sh er) k)), u, v)) : wp_M_curve 512 512 512 512 900 900 3600 4 3600 4 code of mc (bI c) cc gf gm' gs fk ff fs fx px fy py (iI k) (iI q) post := by
  have J : ∀ y : Int, 0 ≤ y ∧ y ≤ 3 → ow2 c (inN (vN X Y N sh er) k) = y → wp_M_curve_J31 512 512 512 512 900 900 3600 4 3600 4 of mc (bI c) cc gf gm' gs fk ff fs fx fy code px py (iI k) (iI q) (iI y) post := by
    intro y hy hw
    rw [hw] at g
    unfold wp_M_curve_J31
    refine rfs hy (fun h0 => ?_) (fun h1 => ?_)
    · rw [cI_t h0, h0] at g
      rw [h0] at hw
      obtain ⟨hc, hi⟩ := w2_i hw
      obtain ⟨hmc, hcc, hG, hX, hY, hV⟩ := hC hc
      have hN := hG.1
      have hnb := vN_b hG sh er
      obtain ⟨j, rfl⟩ : ∃ j : Nat, k = (j : Int) := ⟨k.toNat, by have := hi.1; omega⟩
      have hj : j < vN X Y N sh er := by have := hi.2; omega
      have hx := hV j hj
      have hvb := vB hG sh er hj
      have hv : vp_in (iI (j : Int)) 512 := iI_in (by omega) (by omega) (by omega)
      rw [Int.toNat_natCast] at g
      unfold cvV at g
      rw [hmc]
      have et : q.tmod 2 = cI (0 ≤ q) (q % 2) (q.tmod 2) := by
        by_cases e : 0 ≤ q
        · rw [cI_t e]; exact Int.tmod_eq_emod_of_nonneg e
        · rw [cI_f e]
      have hsc : (fun u : (Nat → Int32) × (Nat → Int32) => HA (hnd X N (vF X Y N sh er j) (vL X Y N sh er j) (vU X Y N sh er j)) u.1 ∧ HA (hnd Y N (vF X Y N sh er j) (vL X Y N sh er j) (vU X Y N sh er j)) u.2) = fun u => HA (hnd X N (vF X Y N sh er j) (vL X Y N sh er j) (vU X Y N sh er j)) u.1 ∧ HA (hnd Y N (vF X Y N sh er j) (vL X Y N sh er j) (vU X Y N sh er j)) u.2 := rfl
      simp (disch := omega) only [iI_lit, iI_neg, iI_add, iI_sub, iI_mul, iI_nI, iI_ofNat, iI_lt, iI_le, iI_eq, iI_cl, bI_0, bI_1, forall_eq, forall_eq_apply_imp_iff, not_true_eq_false, not_false_eq_true, ne_eq, Classical.not_not]
      refine ⟨fun e => ?_, fun e => ⟨fun e10 => ?_, fun e10 => ?_⟩⟩
      · have g := g px py
        rw [cI_f (by omega), cI_f (by omega), cI_f (by omega), cI_f (by omega)] at g; exact g
      · refine ⟨fun u => HA (hnd X N (vF X Y N sh er j) (vL X Y N sh er j) (vU X Y N sh er j)) u.1 ∧ HA (hnd Y N (vF X Y N sh er j) (vL X Y N sh er j) (vU X Y N sh er j)) u.2, t_M_setCurve hG hX hY (by omega) hx hvb.1 hvb.2.1 hvb.2.2 (fun a b h1 h2 => ⟨h1, h2⟩), ?_⟩
        rintro u0 u1 ⟨h1, h2⟩
        have h1 : HA (hnd X N (vF X Y N sh er j) (vL X Y N sh er j) (vU X Y N sh er j)) u0 := h1
        have h2 : HA (hnd Y N (vF X Y N sh er j) (vL X Y N sh er j) (vU X Y N sh er j)) u1 := h2
        have g := g u0 u1
        rw [Int.toNat_natCast, hx.1, hx.2.1, hx.2.2]
        refine ⟨fun e3 => ?_, fun e3 => ⟨fun e0 => ⟨fun e1 => ⟨hv, ?_⟩, fun e1 => ⟨hv, ?_⟩⟩, fun e0 => ⟨hv, ?_⟩⟩⟩
        · rw [cI_f (by omega), cI_f (by omega), cI_f (by omega), cI_t (by omega)] at g
          unfold oV at g
          obtain ⟨i, hi'⟩ : ∃ i : Nat, (i : Int) = (q - 3) / 2 := ⟨((q - 3) / 2).toNat, by omega⟩
          rw [← hi', Int.toNat_natCast] at g
          have e4 : iI q - iI q / iI 2 * iI 2 = iI (q % 2) := by rw [iI_rem (by omega) (by omega) (by omega) (by omega), Int.tmod_eq_emod_of_nonneg (by omega)]
          have e5 : iI (q - 3) / iI 2 = iI (i : Int) := by rw [iI_div (by omega) (by omega) (by omega) (by omega), Int.tdiv_eq_ediv_of_nonneg (by omega), ← hi']
          rw [e4, e5, iI_cl (by omega) (by omega), Int.toNat_natCast, iI_eq (by omega) (by omega) (by omega) (by omega), h1 i (by omega), h2 i (by omega)]
          refine ⟨fun e6 => ⟨v4 (by omega), ?_⟩, fun e6 => ⟨v4 (by omega), ?_⟩⟩
          · rwa [cI_f (by omega)] at g
          · rwa [cI_t (by omega)] at g
        · rw [cI_f (by omega), cI_f (by omega), cI_t (by omega)] at g; exact g
        · rw [cI_f (by omega), cI_t (by omega)] at g; exact g
        · rw [cI_t (by omega)] at g; exact g
      · have g := g px py
        rw [cI_f (by omega), cI_f (by omega), cI_f (by omega), cI_f (by omega)] at g; exact g
    · rw [cI_f (by omega)] at g
      rw [iI_z]; exact g _ _
  unfold wp_M_curve
  simp only [iI_lit, iI_neg, iI_add, iI_sub, iI_mul, iI_nI, iI_ofNat, iI_lt, iI_le, iI_eq, iI_cl, bI_0, bI_1, forall_eq, forall_eq_apply_imp_iff, not_true_eq_false, not_false_eq_true, ne_eq, Classical.not_not]
  refine ⟨fun hc => ?_, fun hc => J 1 (by omega) (w2_1 hc)⟩
  obtain ⟨hmc, hcc, hG, -⟩ := hC hc
  have hN := hG.1
  have hnb := vN_b hG sh er
  have e : cc - iI 1 = iI (((vN X Y N sh er : Nat) : Int) - 1) := by rw [hcc, iI_sub]
  rw [e]
  refine call_i (fun Q q => t_M_in hk (by omega) (by omega) q) ?_
  simp only [iI_lit, iI_neg, iI_add, iI_sub, iI_mul, iI_nI, iI_ofNat, iI_lt, iI_le, iI_eq, iI_cl, bI_0, bI_1, forall_eq, forall_eq_apply_imp_iff, not_true_eq_false, not_false_eq_true, ne_eq, Classical.not_not]
  exact ⟨fun h => J 0 (by omega) (w2_0 hc ⟨h.1, by omega⟩), fun h => J 2 (by omega) (w2_2 hc (fun w => h ⟨w.1, by have := w.2; omega⟩))⟩
theorem M_place {X Y : Nat → Int} {N : Nat} {sh er : Int} {c : Prop} {of mc cc code : Int32} {fk ff fs fx fy px py gf gm' gs : Nat → Int32} (hC : c → oCM X Y N sh er of mc cc fk ff fs fx fy gf gm' gs) {k t ax : Int} (hk : (-2147483648 ≤ k ∧ k < 2147483648)) (ht : (-2147483648 ≤ t ∧ t < 2147483648)) (hax : (-2147483648 ≤ ax ∧ ax < 2147483648)) {post : Int32 → (Int32 × (Nat → Int32) × (Nat → Int32)) → Prop} (g : ∀ u v, post (iI (cI (ow3 c (inN (vN X Y N sh er) k) ((0 ≤ t ∧ t ≤ 8) ∧ 0 ≤ ax ∧ ax ≤ 1) = 0) (plV X Y N (vF X Y N sh er k.toNat) (vL X Y N sh er k.toNat) (vU X Y N sh er k.toNat) t ax) 0)) (iI (ow3 c (inN (vN X Y N sh er) k) ((0 ≤ t ∧ t ≤ 8) ∧ 0 ≤ ax ∧ ax ≤ 1)), u, v)) : wp_M_place 512 512 512 512 900 900 3600 4 3600 4 code of mc (bI c) cc gf gm' gs fk ff fs fx px fy py (iI k) (iI t) (iI ax) post := by
  have J : ∀ y : Int, 0 ≤ y ∧ y ≤ 3 → ow3 c (inN (vN X Y N sh er) k) ((0 ≤ t ∧ t ≤ 8) ∧ 0 ≤ ax ∧ ax ≤ 1) = y → wp_M_place_J54 512 512 512 512 900 900 3600 4 3600 4 of mc (bI c) cc gf gm' gs fk ff fs fx fy code px py (iI k) (iI t) (iI ax) (iI y) post := by
    intro y hy hw
    rw [hw] at g
    unfold wp_M_place_J54
    refine rfs hy (fun h0 => ?_) (fun h1 => ?_)
    · rw [cI_t h0, h0] at g
      rw [h0] at hw
      obtain ⟨hc, hi, hd⟩ := w3_i hw
      obtain ⟨hmc, hcc, hG, hX, hY, hV⟩ := hC hc
      have hN := hG.1
      have hnb := vN_b hG sh er
      obtain ⟨j, rfl⟩ : ∃ j : Nat, k = (j : Int) := ⟨k.toNat, by have := hi.1; omega⟩
      have hj : j < vN X Y N sh er := by have := hi.2; omega
      have hx := hV j hj
      have hvb := vB hG sh er hj
      have hv : vp_in (iI (j : Int)) 512 := iI_in (by omega) (by omega) (by omega)
      rw [Int.toNat_natCast] at g
      unfold plV oPV at g
      rw [hmc]
      refine ⟨fun u => HA (hnd X N (vF X Y N sh er j) (vL X Y N sh er j) (vU X Y N sh er j)) u.1 ∧ HA (hnd Y N (vF X Y N sh er j) (vL X Y N sh er j) (vU X Y N sh er j)) u.2, t_M_setCurve hG hX hY (by omega) hx hvb.1 hvb.2.1 hvb.2.2 (fun a b h1 h2 => ⟨h1, h2⟩), ?_⟩
      rintro u0 u1 ⟨h1, h2⟩
      have h1 : HA (hnd X N (vF X Y N sh er j) (vL X Y N sh er j) (vU X Y N sh er j)) u0 := h1
      have h2 : HA (hnd Y N (vF X Y N sh er j) (vL X Y N sh er j) (vU X Y N sh er j)) u1 := h2
      have g := g u0 u1
      simp (disch := omega) only [iI_lit, iI_neg, iI_add, iI_sub, iI_mul, iI_nI, iI_ofNat, iI_lt, iI_le, iI_eq, iI_cl, bI_0, bI_1, forall_eq, forall_eq_apply_imp_iff, not_true_eq_false, not_false_eq_true, ne_eq, Classical.not_not, Int.toNat_natCast]
      rw [hx.2.2]
      simp (disch := omega) only [iI_lit, iI_neg, iI_add, iI_sub, iI_mul, iI_nI, iI_ofNat, iI_lt, iI_le, iI_eq, iI_cl, bI_0, bI_1, forall_eq, forall_eq_apply_imp_iff, not_true_eq_false, not_false_eq_true, ne_eq, Classical.not_not]
      have n0 : iI 0 = bI False := (bI_f (fun h => h)).symm
      have n1 : iI 1 = bI True := (bI_t trivial).symm
      refine ⟨fun e => ⟨hv, fun e2 => ?_, fun e2 => ?_⟩, fun e => ⟨hv, fun e2 => ?_, fun e2 => ?_⟩⟩
      · rw [cI_f e, cI_f e2] at g
        unfold wp_M_place_J97a
        rw [n0]
        refine call_i (fun Q q => t_M_along h2 hd.1 q) ?_
        rw [cI_f (fun h => h), ← n0]; exact g
      · rw [cI_f e, cI_t e2] at g
        unfold wp_M_place_J97a
        rw [n1]
        refine call_i (fun Q q => t_M_along h2 hd.1 q) ?_
        rw [cI_t trivial]; exact g
      · rw [cI_t e, cI_f e2] at g
        unfold wp_M_place_J97b
        rw [n0]
        refine call_i (fun Q q => t_M_along h1 hd.1 q) ?_
        rw [cI_f (fun h => h), ← n0]; exact g
      · rw [cI_t e, cI_t e2] at g
        unfold wp_M_place_J97b
        rw [n1]
        refine call_i (fun Q q => t_M_along h1 hd.1 q) ?_
        rw [cI_t trivial]; exact g
    · rw [cI_f (by omega)] at g
      rw [iI_z]; exact g _ _
  unfold wp_M_place wp_M_place_J49
  simp only [iI_lit, iI_neg, iI_add, iI_sub, iI_mul, iI_nI, iI_ofNat, iI_lt, iI_le, iI_eq, iI_cl, bI_0, bI_1, forall_eq, forall_eq_apply_imp_iff, not_true_eq_false, not_false_eq_true, ne_eq, Classical.not_not]
  refine ⟨fun hc => ?_, fun hc => J 1 (by omega) (w3_1 hc)⟩
  obtain ⟨hmc, hcc, hG, -⟩ := hC hc
  have hN := hG.1
  have hnb := vN_b hG sh er
  have e : cc - iI 1 = iI (((vN X Y N sh er : Nat) : Int) - 1) := by rw [hcc, iI_sub]
  rw [e]
  refine call_i (fun Q q => t_M_in hk (by omega) (by omega) q) ?_
  simp only [iI_lit, iI_neg, iI_add, iI_sub, iI_mul, iI_nI, iI_ofNat, iI_lt, iI_le, iI_eq, iI_cl, bI_0, bI_1, forall_eq, forall_eq_apply_imp_iff, not_true_eq_false, not_false_eq_true, ne_eq, Classical.not_not]
  refine ⟨fun h => ?_, fun h => J 2 (by omega) (w3_2 hc (fun w => h ⟨w.1, by have := w.2; omega⟩))⟩
  have hi : inN (vN X Y N sh er) k := ⟨h.1, by omega⟩
  refine call_i (fun Q q => t_M_in ht (by omega) (by omega) q) ?_
  simp only [iI_lit, iI_neg, iI_add, iI_sub, iI_mul, iI_nI, iI_ofNat, iI_lt, iI_le, iI_eq, iI_cl, bI_0, bI_1, forall_eq, forall_eq_apply_imp_iff, not_true_eq_false, not_false_eq_true, ne_eq, Classical.not_not]
  refine ⟨fun h2 => J 3 (by omega) (w3_3 hc hi (fun w => h2 w.1)), fun h2 => ?_⟩
  refine call_i (fun Q q => t_M_in hax (by omega) (by omega) q) ?_
  simp only [iI_lit, iI_neg, iI_add, iI_sub, iI_mul, iI_nI, iI_ofNat, iI_lt, iI_le, iI_eq, iI_cl, bI_0, bI_1, forall_eq, forall_eq_apply_imp_iff, not_true_eq_false, not_false_eq_true, ne_eq, Classical.not_not]
  exact ⟨fun h3 => J 0 (by omega) (w3_0 hc hi ⟨h2, h3⟩), fun h3 => J 3 (by omega) (w3_3 hc hi (fun w => h3 w.2))⟩
theorem M_near {X Y : Nat → Int} {N : Nat} {sh er : Int} {c : Prop} {of mc cc code : Int32} {fk ff fs fx fy px py gf gm' gs : Nat → Int32} (hC : c → oCM X Y N sh er of mc cc fk ff fs fx fy gf gm' gs) {k t e : Int} (hk : (-2147483648 ≤ k ∧ k < 2147483648)) (ht : (-2147483648 ≤ t ∧ t < 2147483648)) (he : (-2147483648 ≤ e ∧ e < 2147483648)) {post : Int32 → (Int32 × (Nat → Int32) × (Nat → Int32)) → Prop} (g : ∀ u v, post (iI (cI (ow3 c (inN (vN X Y N sh er) k) ((0 ≤ t ∧ t ≤ 8) ∧ 0 ≤ e ∧ e ≤ 64) = 0) (cI (nrP X Y N sh er k.toNat t e) 1 0) 0)) (iI (ow3 c (inN (vN X Y N sh er) k) ((0 ≤ t ∧ t ≤ 8) ∧ 0 ≤ e ∧ e ≤ 64)), u, v)) : wp_M_near 512 512 512 512 900 900 3600 4 3600 4 code of mc (bI c) cc gf gm' gs fk ff fs fx px fy py (iI k) (iI t) (iI e) post := by
  have J : ∀ y : Int, 0 ≤ y ∧ y ≤ 3 → ow3 c (inN (vN X Y N sh er) k) ((0 ≤ t ∧ t ≤ 8) ∧ 0 ≤ e ∧ e ≤ 64) = y → wp_M_near_J55 512 512 512 512 900 900 3600 4 3600 4 of mc (bI c) cc gf gm' gs fk ff fs fx fy code px py (iI k) (iI t) (iI e) (iI y) post := by
    intro y hy hw
    rw [hw] at g
    unfold wp_M_near_J55
    refine rfs hy (fun h0 => ?_) (fun h1 => ?_)
    · rw [cI_t h0, h0] at g
      rw [h0] at hw
      obtain ⟨hc, hi, hd⟩ := w3_i hw
      obtain ⟨hmc, hcc, hG, hX, hY, hV⟩ := hC hc
      have hN := hG.1
      have hnb := vN_b hG sh er
      obtain ⟨j, rfl⟩ : ∃ j : Nat, k = (j : Int) := ⟨k.toNat, by have := hi.1; omega⟩
      have hj : j < vN X Y N sh er := by have := hi.2; omega
      have hx := hV j hj
      have hvb := vB hG sh er hj
      have hv : vp_in (iI (j : Int)) 512 := iI_in (by omega) (by omega) (by omega)
      rw [Int.toNat_natCast] at g
      rw [hmc]
      refine ⟨fun u => HA (hnd X N (vF X Y N sh er j) (vL X Y N sh er j) (vU X Y N sh er j)) u.1 ∧ HA (hnd Y N (vF X Y N sh er j) (vL X Y N sh er j) (vU X Y N sh er j)) u.2, t_M_setCurve hG hX hY (by omega) hx hvb.1 hvb.2.1 hvb.2.2 (fun a b h1 h2 => ⟨h1, h2⟩), ?_⟩
      rintro u0 u1 ⟨h1, h2⟩
      have h1 : HA (hnd X N (vF X Y N sh er j) (vL X Y N sh er j) (vU X Y N sh er j)) u0 := h1
      have h2 : HA (hnd Y N (vF X Y N sh er j) (vL X Y N sh er j) (vU X Y N sh er j)) u1 := h2
      have hbx := fun i => hnd_b (X := X) (N := N) (fun j => ⟨(hG.2.1 j).1, (hG.2.1 j).2.1⟩) (vF X Y N sh er j) (vL X Y N sh er j) hvb.2.2 i
      have hby := fun i => hnd_b (X := Y) (N := N) (fun j => ⟨(hG.2.1 j).2.2.1, (hG.2.1 j).2.2.2⟩) (vF X Y N sh er j) (vL X Y N sh er j) hvb.2.2 i
      have g := g u0 u1
      have main : wp_M_near_J96 512 512 512 512 900 900 3600 4 3600 4 of (iI (N : Int)) (bI c) cc gf gm' gs fk ff fs fx fy (iI 0) u0 u1 (iI e) (bI (vU X Y N sh er j = 0)) (iI t) (iI ((vL X Y N sh er j : Nat) : Int)) (iI ((vF X Y N sh er j : Nat) : Int)) post := by
        unfold wp_M_near_J96
        refine call_i (fun Q q => t_M_isNear hG hX hY h1 h2 hbx hby (by omega) hvb.2.1 hd.1 hd.2 q) ?_
        exact ⟨by rw [iI_z, kl_1]; exact bI_01 _, g⟩
      rw [iI_cl (by omega) (by omega), Int.toNat_natCast, hx.1, hx.2.1, hx.2.2]
      simp (disch := omega) only [iI_lit, iI_neg, iI_add, iI_sub, iI_mul, iI_nI, iI_ofNat, iI_lt, iI_le, iI_eq, iI_cl, bI_0, bI_1, forall_eq, forall_eq_apply_imp_iff, not_true_eq_false, not_false_eq_true, ne_eq, Classical.not_not]
      refine ⟨hv, hv, hv, fun e2 => ?_, fun e2 => ?_⟩
      · rwa [bI_f e2] at main
      · rwa [bI_t e2] at main
    · rw [cI_f (by omega)] at g
      rw [iI_z]; exact g _ _
  unfold wp_M_near wp_M_near_J50
  simp only [iI_lit, iI_neg, iI_add, iI_sub, iI_mul, iI_nI, iI_ofNat, iI_lt, iI_le, iI_eq, iI_cl, bI_0, bI_1, forall_eq, forall_eq_apply_imp_iff, not_true_eq_false, not_false_eq_true, ne_eq, Classical.not_not]
  refine ⟨fun hc => ?_, fun hc => J 1 (by omega) (w3_1 hc)⟩
  obtain ⟨hmc, hcc, hG, -⟩ := hC hc
  have hN := hG.1
  have hnb := vN_b hG sh er
  have e' : cc - iI 1 = iI (((vN X Y N sh er : Nat) : Int) - 1) := by rw [hcc, iI_sub]
  rw [e']
  refine call_i (fun Q q => t_M_in hk (by omega) (by omega) q) ?_
  simp only [iI_lit, iI_neg, iI_add, iI_sub, iI_mul, iI_nI, iI_ofNat, iI_lt, iI_le, iI_eq, iI_cl, bI_0, bI_1, forall_eq, forall_eq_apply_imp_iff, not_true_eq_false, not_false_eq_true, ne_eq, Classical.not_not]
  refine ⟨fun h => ?_, fun h => J 2 (by omega) (w3_2 hc (fun w => h ⟨w.1, by have := w.2; omega⟩))⟩
  have hi : inN (vN X Y N sh er) k := ⟨h.1, by omega⟩
  refine call_i (fun Q q => t_M_in ht (by omega) (by omega) q) ?_
  simp only [iI_lit, iI_neg, iI_add, iI_sub, iI_mul, iI_nI, iI_ofNat, iI_lt, iI_le, iI_eq, iI_cl, bI_0, bI_1, forall_eq, forall_eq_apply_imp_iff, not_true_eq_false, not_false_eq_true, ne_eq, Classical.not_not]
  refine ⟨fun h2 => J 3 (by omega) (w3_3 hc hi (fun w => h2 w.1)), fun h2 => ?_⟩
  refine call_i (fun Q q => t_M_in he (by omega) (by omega) q) ?_
  simp only [iI_lit, iI_neg, iI_add, iI_sub, iI_mul, iI_nI, iI_ofNat, iI_lt, iI_le, iI_eq, iI_cl, bI_0, bI_1, forall_eq, forall_eq_apply_imp_iff, not_true_eq_false, not_false_eq_true, ne_eq, Classical.not_not]
  exact ⟨fun h3 => J 0 (by omega) (w3_0 hc hi ⟨h2, h3⟩), fun h3 => J 3 (by omega) (w3_3 hc hi (fun w => h3 w.2))⟩
