-- the class's answers
noncomputable def abV (T : TS) (o : Nat) (q : Int) : Int := cI (q = 0) ((nn T o : Nat) : Int) (cI (q = 1) (T.2.2.2.2.1 o) (cI (q = 2) (T.2.2.2.2.2.1 o) (cI (q = 3) (LI T o) (-1))))
def inO (T : TS) (p : Int) : Prop := 0 ≤ p ∧ p < (T.1 : Int)
def oInP (T : TS) (p i : Int) : Prop := (0 ≤ p ∧ p < (T.1 : Int)) ∧ (0 ≤ i ∧ i < ((nn T p.toNat : Nat) : Int))
theorem X_about {W H nb nl na nX nY : Nat} {T : TS} {a : Prop} {fl fb fa fx fy : Nat → Int32} (hK : KU W H nb nl na nX nY) (hA : a → TB W H 7 T ∧ RC T (iI T.1) fl fb fa fx fy) {p q : Int} (hp : (-2147483648 ≤ p ∧ p < 2147483648)) (hq : (-2147483648 ≤ q ∧ q < 2147483648)) {fO : Nat → Int64} {post : Int32 → (Nat → Int64) → Prop} (g : post (iI (ow2 a (inO T p))) (oU (ow2 a (inO T p)) (abV T p.toNat q) fO)) : ww_L_about na nb nX nY nl 1 (iI (cI a (T.1 : Int) 0)) (bI a) fa fb fx fy fl fO (iI p) (iI q) post := by
  unfold ww_L_about
  by_cases ha : a
  · obtain ⟨hT, hR⟩ := hA ha
    have hc := TB_cnt hT
    rw [cI_t ha]
    by_cases hi : inO T p
    · rw [w2_0 ha hi] at g
      obtain ⟨o, rfl⟩ : ∃ o : Nat, p = (o : Int) := ⟨p.toNat, by have := hi.1; omega⟩
      have ho : o < T.1 := by have := hi.2; omega
      rw [Int.toNat_natCast] at g
      have h1 := TB_o hT ho
      have hr := hR.2.2.1 o ho
      have hK2 := hK
      obtain ⟨z1, z2, z3, z4, z5, z6⟩ := hK2
      left
      unfold wp_L_about
      refine call_i (v := iI (abV T o q)) (fun Q q' => ?_) (fin0 (by rw [iI_z]; exact g))
      unfold wp_O_about
      refine call_0 (fun Q q => rqT ha q) (call_0 (fun Q q => rqI hp (by omega) hi q) ?_)
      unfold abV at q'
      simp (disch := omega) only [iI_lit, iI_neg, iI_add, iI_sub, iI_mul, iI_nI, iI_ofNat, iI_lt, iI_le, iI_eq, iI_cl, bI_0, bI_1, forall_eq, forall_eq_apply_imp_iff, not_true_eq_false, not_false_eq_true, ne_eq, Classical.not_not, Int.toNat_natCast]
      rw [hr.1, hr.2]
      refine ⟨fun e => ?_, fun e => ⟨iI_in (by omega) (by omega) (by omega), ?_⟩, fun e => ⟨iI_in (by omega) (by omega) (by omega), ?_⟩, fun e => ?_, fun e0 e1 e2 e3 => ?_⟩
      · rw [cI_t e] at q'; exact call_i (fun Q q => t_U_length hK hT hR ho q) q'
      · rw [cI_f (by omega), cI_t e] at q'; exact q'
      · rw [cI_f (by omega), cI_f (by omega), cI_t e] at q'; exact q'
      · rw [cI_f (by omega), cI_f (by omega), cI_f (by omega), cI_t e] at q'; exact call_i (fun Q q => t_U_outlineRound hK hT hR ho q) q'
      · rw [cI_f e0, cI_f e1, cI_f e2, cI_f e3] at q'; exact q'
    · rw [w2_2 ha hi, oU_n (by omega)] at g
      refine Or.inr (Or.inr ⟨?_, by rw [kl_2]; exact g⟩)
      unfold tp_O_about
      exact Or.inr (call_0 (fun Q q => rqT ha q) (Or.inl (tpI hp (by omega) hi)))
  · rw [w2_1 ha, oU_n (by omega)] at g
    exact Or.inr (Or.inl ⟨Or.inl (tpT ha), by rw [kl_1]; exact g⟩)
noncomputable def ptV (T : TS) (p i ax : Int) : Int := cI (ax = 0) (qX T p.toNat i.toNat) (qY T p.toNat i.toNat)
theorem X_point {W H nb nl na nX nY : Nat} {T : TS} {a : Prop} {fl fb fa fx fy : Nat → Int32} (hK : KU W H nb nl na nX nY) (hA : a → TB W H 7 T ∧ RC T (iI T.1) fl fb fa fx fy) {p i ax : Int} (hp : (-2147483648 ≤ p ∧ p < 2147483648)) (hi : (-2147483648 ≤ i ∧ i < 2147483648)) (hx : (-2147483648 ≤ ax ∧ ax < 2147483648)) {fO : Nat → Int64} {post : Int32 → (Nat → Int64) → Prop} (g : post (iI (ow3 a (oInP T p i) (0 ≤ ax ∧ ax ≤ 1))) (oU (ow3 a (oInP T p i) (0 ≤ ax ∧ ax ≤ 1)) (ptV T p i ax) fO)) : ww_L_point nb nY nX 1 (iI (cI a (T.1 : Int) 0)) (bI a) fb fy fx fO (iI p) (iI i) (iI ax) post := by
  unfold ww_L_point
  by_cases ha : a
  · obtain ⟨hT, hR⟩ := hA ha
    have hc := TB_cnt hT
    rw [cI_t ha]
    by_cases hin : oInP T p i
    · obtain ⟨o, rfl⟩ : ∃ o : Nat, p = (o : Int) := ⟨p.toNat, by have := hin.1.1; omega⟩
      obtain ⟨j, rfl⟩ : ∃ j : Nat, i = (j : Int) := ⟨i.toNat, by have := hin.2.1; omega⟩
      have ho : o < T.1 := by have := hin.1.2; omega
      have hj : j < nn T o := by have := hin.2.2; rw [Int.toNat_natCast] at this; omega
      have h1 := TB_o hT ho
      have hK2 := hK
      obtain ⟨z1, z2, z3, z4, z5, z6⟩ := hK2
      have hq := RC_q hT hR ho j
      rw [Nat.mod_eq_of_lt hj] at hq
      by_cases hd : 0 ≤ ax ∧ ax ≤ 1
      · rw [w3_0 ha hin hd] at g
        left
        unfold wp_L_point
        refine call_i (v := iI (ptV T o j ax)) (fun Q q' => ?_) (fin0 (by rw [iI_z]; exact g))
        unfold wp_O_point
        rw [iI_z, kl_1]
        refine call_0 (fun Q q => rqP hK ha hT hR ho hj q) (call_0 (fun Q q => t_O_requireRange hx (by omega) (by omega) hd q) ?_)
        rw [iI_cl (by omega) (by omega), Int.toNat_natCast, hR.2.1 o (by omega)]
        simp (disch := omega) only [iI_lit, iI_neg, iI_add, iI_sub, iI_mul, iI_nI, iI_ofNat, iI_lt, iI_le, iI_eq, iI_cl, bI_0, bI_1, forall_eq, forall_eq_apply_imp_iff, not_true_eq_false, not_false_eq_true, ne_eq, Classical.not_not]
        rw [show (((T.2.1 o : Nat) : Int) + (j : Int)).toNat = T.2.1 o + j by omega, hq.1, hq.2]
        unfold ptV at q'
        rw [Int.toNat_natCast, Int.toNat_natCast] at q'
        refine ⟨iI_in (by omega) (by omega) (by omega), fun e => ⟨iI_in (by omega) (by omega) (by omega), ?_⟩, fun e => ⟨iI_in (by omega) (by omega) (by omega), ?_⟩⟩
        · rwa [cI_f e] at q'
        · rwa [cI_t e] at q'
      · rw [w3_3 ha hin hd, oU_n (by omega)] at g
        refine Or.inr (Or.inr (Or.inr ⟨?_, by rw [kl_3]; exact g⟩))
        unfold tp_O_point
        rw [iI_z, kl_1]
        exact Or.inr (call_0 (fun Q q => rqP hK ha hT hR ho hj q) (Or.inl (tpR hx (by omega) (by omega) hd)))
    · rw [w3_2 ha hin, oU_n (by omega)] at g
      refine Or.inr (Or.inr (Or.inl ⟨?_, by rw [kl_2]; exact g⟩))
      unfold tp_O_point
      exact Or.inl (tpP2 hK ha hT hR hp hi hin)
  · rw [w3_1 ha, oU_n (by omega)] at g
    exact Or.inr (Or.inl ⟨Or.inl (tpP1 ha), by rw [kl_1]; exact g⟩)
def smp (W H : Nat) (x y : Int) : Prop := 0 ≤ x ∧ x < (W : Int) ∧ 0 ≤ y ∧ y < (H : Int)
theorem X_covered {W H nb nl na nX nY : Nat} {T : TS} {a : Prop} {fl fb fa fx fy : Nat → Int32} (hW : 1 ≤ W ∧ W ≤ 16) (hH : 1 ≤ H ∧ H ≤ 16) (hK : KU W H nb nl na nX nY) (hA : a → TB W H 7 T ∧ RC T (iI T.1) fl fb fa fx fy) {x y : Int} (hx : (-2147483648 ≤ x ∧ x < 2147483648)) (hy : (-2147483648 ≤ y ∧ y < 2147483648)) {fO : Nat → Int64} {post : Int32 → (Nat → Int64) → Prop} (g : post (iI (ow2 a (smp W H x y))) (oU (ow2 a (smp W H x y)) (cf T x y 7) fO)) : ww_L_covered nl nb nX nY 1 (iI (cI a (T.1 : Int) 0)) (bI a) (iI W) (iI H) fl fb fx fy fO (iI x) (iI y) post := by
  unfold ww_L_covered
  by_cases ha : a
  · obtain ⟨hT, hR⟩ := hA ha
    rw [cI_t ha]
    by_cases hi : smp W H x y
    · rw [w2_0 ha hi] at g
      left
      unfold wp_L_covered
      refine call_i (v := iI (cf T x y 7)) (fun Q q' => ?_) (fin0 (by rw [iI_z]; exact g))
      unfold wp_O_covered
      have hi2 := hi
      obtain ⟨s1, s2, s3, s4⟩ := hi2
      exact call_0 (fun Q q => rqT ha q) (call_0 (fun Q q => rqS hW hH hx hy hi q) (call_i (fun Q q => t_U_greatest hK hT hR (by omega) (by omega) q) q'))
    · rw [w2_2 ha hi, oU_n (by omega)] at g
      refine Or.inr (Or.inr ⟨?_, by rw [kl_2]; exact g⟩)
      unfold tp_O_covered
      exact Or.inr (call_0 (fun Q q => rqT ha q) (Or.inl (tpS hW hH hx hy hi)))
  · rw [w2_1 ha, oU_n (by omega)] at g
    exact Or.inr (Or.inl ⟨Or.inl (tpT ha), by rw [kl_1]; exact g⟩)
theorem X_piece {W H nb nl na nX nY : Nat} {T : TS} {a : Prop} {fl fb fa fx fy : Nat → Int32} (hK : KU W H nb nl na nX nY) (hA : a → TB W H 7 T ∧ RC T (iI T.1) fl fb fa fx fy) {p i k s : Int} (hp : (-2147483648 ≤ p ∧ p < 2147483648)) (hi : (-2147483648 ≤ i ∧ i < 2147483648)) (hk : (-2147483648 ≤ k ∧ k < 2147483648)) (hs : (-2147483648 ≤ s ∧ s < 2147483648)) {fO : Nat → Int64} {post : Int32 → (Nat → Int64) → Prop} (g : post (iI (ow3 a (oInP T p i) ((1 ≤ k ∧ k ≤ 24) ∧ 1 ≤ s ∧ s ≤ 8))) (oU (ow3 a (oInP T p i) ((1 ≤ k ∧ k ≤ 24) ∧ 1 ≤ s ∧ s ≤ 8)) (CO T p.toNat i.toNat k.toNat s) fO)) : ww_L_piece nb nX nY 1 (iI (cI a (T.1 : Int) 0)) (bI a) fb fx fy fO (iI p) (iI i) (iI k) (iI s) post := by
  unfold ww_L_piece
  by_cases ha : a
  · obtain ⟨hT, hR⟩ := hA ha
    have hc := TB_cnt hT
    rw [cI_t ha]
    by_cases hin : oInP T p i
    · obtain ⟨o, rfl⟩ : ∃ o : Nat, p = (o : Int) := ⟨p.toNat, by have := hin.1.1; omega⟩
      obtain ⟨j, rfl⟩ : ∃ j : Nat, i = (j : Int) := ⟨i.toNat, by have := hin.2.1; omega⟩
      have ho : o < T.1 := by have := hin.1.2; omega
      have hj : j < nn T o := by have := hin.2.2; rw [Int.toNat_natCast] at this; omega
      by_cases hd : (1 ≤ k ∧ k ≤ 24) ∧ 1 ≤ s ∧ s ≤ 8
      · rw [w3_0 ha hin hd] at g
        obtain ⟨m, rfl⟩ : ∃ m : Nat, k = (m : Int) := ⟨k.toNat, by have := hd.1.1; omega⟩
        rw [Int.toNat_natCast, Int.toNat_natCast, Int.toNat_natCast] at g
        left
        unfold wp_L_piece
        refine call_i (v := iI (CO T o j m s)) (fun Q q' => ?_) (fin0 (by rw [iI_z]; exact g))
        unfold wp_O_piece
        rw [kl_1, kl_24, kl_8]
        exact call_0 (fun Q q => rqP hK ha hT hR ho hj q) (call_0 (fun Q q => t_O_requireRange hk (by omega) (by omega) hd.1 q) (call_0 (fun Q q => t_O_requireRange hs (by omega) (by omega) hd.2 q) (call_i (fun Q q => t_U_costOf hK hT hR ho hj (by omega) hd.2 q) q')))
      · rw [w3_3 ha hin hd, oU_n (by omega)] at g
        refine Or.inr (Or.inr (Or.inr ⟨?_, by rw [kl_3]; exact g⟩))
        unfold tp_O_piece
        rw [kl_1, kl_24, kl_8]
        refine Or.inr (call_0 (fun Q q => rqP hK ha hT hR ho hj q) ?_)
        by_cases hd1 : 1 ≤ k ∧ k ≤ 24
        · exact Or.inr (call_0 (fun Q q => t_O_requireRange hk (by omega) (by omega) hd1 q) (Or.inl (tpR hs (by omega) (by omega) (fun w => hd ⟨hd1, w⟩))))
        · exact Or.inl (tpR hk (by omega) (by omega) hd1)
    · rw [w3_2 ha hin, oU_n (by omega)] at g
      refine Or.inr (Or.inr (Or.inl ⟨?_, by rw [kl_2]; exact g⟩))
      unfold tp_O_piece
      exact Or.inl (tpP2 hK ha hT hR hp hi hin)
  · rw [w3_1 ha, oU_n (by omega)] at g
    exact Or.inr (Or.inl ⟨Or.inl (tpP1 ha), by rw [kl_1]; exact g⟩)
-- what a corner is
def oGX (X Y : Nat → Int) (N : Nat) (K : Nat → Nat) (gp gx gy ga gt' : Nat → Int32) : Prop := ∀ j, j < N → gp j = iI ((K j : Nat) : Int) ∧ gx j = iI (X j) ∧ gy j = iI (Y j) ∧ ga j = iI (ag X Y N j) ∧ gt' j = iI (tu X Y N j)
noncomputable def cnV (X Y : Nat → Int) (N : Nat) (K : Nat → Nat) (k : Nat) (q : Int) : Int := cI (q = 0) ((K k : Nat) : Int) (cI (q = 1) (X k) (cI (q = 2) (Y k) (cI (q = 3) (ag X Y N k) (cI (q = 4) (tu X Y N k) (-1)))))
def inN (N : Nat) (k : Int) : Prop := 0 ≤ k ∧ k < (N : Int)
theorem X_corner {X Y : Nat → Int} {N S : Nat} {K : Nat → Nat} {b : Prop} {gp gx gy ga gt' : Nat → Int32} (hB : b → PG X Y N ∧ (N ≤ S ∧ S < 10000) ∧ oGX X Y N K gp gx gy ga gt') {k q : Int} (hk : (-2147483648 ≤ k ∧ k < 2147483648)) (hq : (-2147483648 ≤ q ∧ q < 2147483648)) {fO : Nat → Int64} {post : Int32 → (Nat → Int64) → Prop} (g : post (iI (ow2 b (inN N k))) (oU (ow2 b (inN N k)) (cnV X Y N K k.toNat q) fO)) : ww_L_corner S S S S S 1 (iI (cI b (N : Int) 0)) gt' ga gy gx gp fO (iI k) (iI q) post := by
  unfold ww_L_corner
  by_cases hb : b
  · obtain ⟨hG, hS, hX⟩ := hB hb
    have hN := hG.1
    rw [cI_t hb]
    by_cases hi : inN N k
    · rw [w2_0 hb hi] at g
      obtain ⟨j, rfl⟩ : ∃ j : Nat, k = (j : Int) := ⟨k.toNat, by have := hi.1; omega⟩
      rw [Int.toNat_natCast] at g
      have hj : j < N := by have := hi.2; omega
      have hx := hX j hj
      have hv : vp_in (iI (j : Int)) S := iI_in (by omega) (by omega) (by omega)
      left
      unfold wp_L_corner
      refine call_i (v := iI (cnV X Y N K j q)) (fun Q q' => ?_) (fin0 (by rw [iI_z]; exact g))
      unfold wp_O_corner
      refine call_0 (fun Q q => rqG (by omega) (by omega) q) (call_0 (fun Q q => rqI hk (by omega) hi q) ?_)
      unfold cnV at q'
      simp (disch := omega) only [iI_lit, iI_neg, iI_add, iI_sub, iI_mul, iI_nI, iI_ofNat, iI_lt, iI_le, iI_eq, iI_cl, bI_0, bI_1, forall_eq, forall_eq_apply_imp_iff, not_true_eq_false, not_false_eq_true, ne_eq, Classical.not_not, Int.toNat_natCast]
      rw [hx.1, hx.2.1, hx.2.2.1, hx.2.2.2.1, hx.2.2.2.2]
      refine ⟨fun e => ⟨hv, ?_⟩, fun e => ⟨hv, ?_⟩, fun e => ⟨hv, ?_⟩, fun e => ⟨hv, ?_⟩, fun e => ⟨hv, ?_⟩, fun e0 e1 e2 e3 e4 => ?_⟩
      · rw [cI_t e] at q'; exact q'
      · rw [cI_f (by omega), cI_t e] at q'; exact q'
      · rw [cI_f (by omega), cI_f (by omega), cI_t e] at q'; exact q'
      · rw [cI_f (by omega), cI_f (by omega), cI_f (by omega), cI_t e] at q'; exact q'
      · rw [cI_f (by omega), cI_f (by omega), cI_f (by omega), cI_f (by omega), cI_t e] at q'; exact q'
      · rw [cI_f e0, cI_f e1, cI_f e2, cI_f e3, cI_f e4] at q'; exact q'
    · rw [w2_2 hb hi, oU_n (by omega)] at g
      refine Or.inr (Or.inr ⟨?_, by rw [kl_2]; exact g⟩)
      unfold tp_O_corner
      exact Or.inr (call_0 (fun Q q => rqG (by omega) (by omega) q) (Or.inl (tpI hk (by omega) hi)))
  · rw [w2_1 hb, oU_n (by omega)] at g
    refine Or.inr (Or.inl ⟨?_, by rw [kl_1]; exact g⟩)
    unfold tp_O_corner
    rw [cI_f hb]
    exact Or.inl tpG
-- what a curve is
noncomputable def cvV (X Y : Nat → Int) (N : Nat) (sh e : Int) (k : Nat) (q : Int) : Int := cI (q = 0) ((vF X Y N sh e k : Nat) : Int) (cI (q = 1) ((vL X Y N sh e k : Nat) : Int) (cI (q = 2) (vU X Y N sh e k) (cI (3 ≤ q ∧ q ≤ 10) (oV X Y N (vF X Y N sh e k) (vL X Y N sh e k) (vU X Y N sh e k) (q - 3)) (-1))))
theorem vN_b {X Y : Nat → Int} {N : Nat} (hG : PG X Y N) (sh e : Int) : 1 ≤ vN X Y N sh e ∧ vN X Y N sh e ≤ N := by
  have hN := hG.1
  exact nC_b (by omega) (by omega)
theorem X_curve {X Y : Nat → Int} {N S : Nat} {sh er : Int} {b c : Prop} {ff fl fp gx gy hx hy : Nat → Int32} (hC : c → b ∧ PG X Y N ∧ (N ≤ S ∧ S < 10000) ∧ (∀ j, j < N → gx j = iI (X j) ∧ gy j = iI (Y j)) ∧ VR X Y N sh er (vN X Y N sh er) ff fl fp) {k q : Int} (hk : (-2147483648 ≤ k ∧ k < 2147483648)) (hq : (-2147483648 ≤ q ∧ q < 2147483648)) {fO : Nat → Int64} {post : Int32 → ((Nat → Int32) × (Nat → Int32) × (Nat → Int64)) → Prop} (g : ∀ u v, post (iI (ow2 c (inN (vN X Y N sh er) k))) (u, v, oU (ow2 c (inN (vN X Y N sh er) k)) (cvV X Y N sh er k.toNat q) fO)) : ww_L_curve S S S S 4 S 4 1 (iI (cI c ((vN X Y N sh er : Nat) : Int) 0)) ff fl fp (iI (cI b (N : Int) 0)) gx hx gy hy fO (iI k) (iI q) post := by
  unfold ww_L_curve
  by_cases hc : c
  · obtain ⟨hb, hG, hS, hX, hV⟩ := hC hc
    have hN := hG.1
    have hnb := vN_b hG sh er
    rw [cI_t hc, cI_t hb]
    by_cases hi : inN (vN X Y N sh er) k
    · simp only [w2_0 hc hi] at g
      obtain ⟨j, rfl⟩ : ∃ j : Nat, k = (j : Int) := ⟨k.toNat, by have := hi.1; omega⟩
      rw [Int.toNat_natCast] at g
      have hj : j < vN X Y N sh er := by have := hi.2; omega
      have hx := hV j hj
      have hvb := vB hG sh er hj
      have hv : vp_in (iI (j : Int)) S := iI_in (by omega) (by omega) (by omega)
      left
      unfold wp_L_curve
      refine ⟨fun r _ => r = iI (cvV X Y N sh er j q), ?_, fun r u0 u1 hr => ?_⟩
      · unfold wp_O_curve wp_O_curve_J87
        refine call_0 (fun Q q => rqC hk (by omega) hi q) ?_
        unfold cvV
        simp (disch := omega) only [iI_lit, iI_neg, iI_add, iI_sub, iI_mul, iI_nI, iI_ofNat, iI_lt, iI_le, iI_eq, iI_cl, bI_0, bI_1, forall_eq, forall_eq_apply_imp_iff, not_true_eq_false, not_false_eq_true, ne_eq, Classical.not_not, Int.toNat_natCast]
        rw [hx.1, hx.2.1, hx.2.2]
        refine ⟨fun e => ⟨hv, ?_⟩, fun e => ⟨hv, ?_⟩, fun e => ⟨hv, ?_⟩, fun e0 e1 e2 => ⟨fun e3 => ?_, fun e3 => ⟨fun e4 => ?_, fun e4 => ?_⟩⟩⟩
        · rw [cI_t e]
        · rw [cI_f (by omega), cI_t e]
        · rw [cI_f (by omega), cI_f (by omega), cI_t e]
        · rw [cI_f e0, cI_f e1, cI_f e2, cI_f (by omega)]
        · rw [cI_f e0, cI_f e1, cI_f e2, cI_f (by omega)]
        · rw [cI_f e0, cI_f e1, cI_f e2, cI_t (by omega)]
          refine ⟨fun r _ => r = iI (oV X Y N (vF X Y N sh er j) (vL X Y N sh er j) (vU X Y N sh er j) (q - 3)), t_C_ordinate hG hS hX (by omega) hx hvb.1 hvb.2.1 hvb.2.2 (by omega) (fun _ _ => rfl), ?_⟩
          rintro r u0 u1 hr
          exact hr
      · have hr : r = _ := hr; subst hr
        exact fin0 (by rw [iI_z]; exact g u0 u1)
    · simp only [w2_2 hc hi, oU_n (show (2 : Int) ≠ 0 by omega)] at g
      refine Or.inr (Or.inr ⟨?_, by rw [kl_2]; exact g _ _⟩)
      unfold tp_O_curve
      exact Or.inl (tpC2 hk (by omega) (by omega) hi)
  · simp only [w2_1 hc, oU_n (show (1 : Int) ≠ 0 by omega)] at g
    refine Or.inr (Or.inl ⟨?_, by rw [kl_1]; exact g _ _⟩)
    unfold tp_O_curve
    rw [cI_f hc]
    exact Or.inl (tpC0 _)
theorem X_place {X Y : Nat → Int} {N S : Nat} {sh er : Int} {b c : Prop} {ff fl fp gx gy hx hy : Nat → Int32} (hC : c → b ∧ PG X Y N ∧ (N ≤ S ∧ S < 10000) ∧ (∀ j, j < N → gx j = iI (X j) ∧ gy j = iI (Y j)) ∧ VR X Y N sh er (vN X Y N sh er) ff fl fp) {k t ax : Int} (hk : (-2147483648 ≤ k ∧ k < 2147483648)) (ht : (-2147483648 ≤ t ∧ t < 2147483648)) (hax : (-2147483648 ≤ ax ∧ ax < 2147483648)) {fO : Nat → Int64} {post : Int32 → ((Nat → Int32) × (Nat → Int32) × (Nat → Int64)) → Prop} (g : ∀ u v, post (iI (ow3 c (inN (vN X Y N sh er) k) ((0 ≤ t ∧ t ≤ 8) ∧ 0 ≤ ax ∧ ax ≤ 1))) (u, v, oU (ow3 c (inN (vN X Y N sh er) k) ((0 ≤ t ∧ t ≤ 8) ∧ 0 ≤ ax ∧ ax ≤ 1)) (plV X Y N (vF X Y N sh er k.toNat) (vL X Y N sh er k.toNat) (vU X Y N sh er k.toNat) t ax) fO)) : ww_L_place S S S S 4 S 4 1 (iI (cI c ((vN X Y N sh er : Nat) : Int) 0)) ff fl fp (iI (cI b (N : Int) 0)) gx hx gy hy fO (iI k) (iI t) (iI ax) post := by
  unfold ww_L_place
  by_cases hc : c
  · obtain ⟨hb, hG, hS, hX, hV⟩ := hC hc
    have hN := hG.1
    have hnb := vN_b hG sh er
    rw [cI_t hc, cI_t hb]
    by_cases hi : inN (vN X Y N sh er) k
    · by_cases hd : (0 ≤ t ∧ t ≤ 8) ∧ 0 ≤ ax ∧ ax ≤ 1
      · simp only [w3_0 hc hi hd] at g
        obtain ⟨j, rfl⟩ : ∃ j : Nat, k = (j : Int) := ⟨k.toNat, by have := hi.1; omega⟩
        rw [Int.toNat_natCast] at g
        have hj : j < vN X Y N sh er := by have := hi.2; omega
        have hx := hV j hj
        have hvb := vB hG sh er hj
        left
        unfold wp_L_place
        refine ⟨fun r _ => r = iI (plV X Y N (vF X Y N sh er j) (vL X Y N sh er j) (vU X Y N sh er j) t ax), ?_, fun r u0 u1 hr => ?_⟩
        · unfold wp_O_place
          rw [iI_z, kl_8, kl_1]
          refine call_0 (fun Q q => rqC hk (by omega) hi q) (call_0 (fun Q q => t_O_requireRange ht (by omega) (by omega) hd.1 q) (call_0 (fun Q q => t_O_requireRange hax (by omega) (by omega) hd.2 q) ?_))
          refine ⟨fun r _ => r = iI (plV X Y N (vF X Y N sh er j) (vL X Y N sh er j) (vU X Y N sh er j) t ax), t_C_placeAt hG hS hX (by omega) hx hvb.1 hvb.2.1 hvb.2.2 hd.1 hd.2 (fun _ _ => rfl), ?_⟩
          rintro r u0 u1 hr
          exact hr
        · have hr : r = _ := hr; subst hr
          exact fin0 (by rw [iI_z]; exact g u0 u1)
      · simp only [w3_3 hc hi hd, oU_n (show (3 : Int) ≠ 0 by omega)] at g
        refine Or.inr (Or.inr (Or.inr ⟨?_, by rw [kl_3]; exact g _ _⟩))
        unfold tp_O_place
        rw [iI_z, kl_8, kl_1]
        refine Or.inr (call_0 (fun Q q => rqC hk (by omega) hi q) ?_)
        by_cases hd1 : 0 ≤ t ∧ t ≤ 8
        · exact Or.inr (call_0 (fun Q q => t_O_requireRange ht (by omega) (by omega) hd1 q) (Or.inl (tpR hax (by omega) (by omega) (fun w => hd ⟨hd1, w⟩))))
        · exact Or.inl (tpR ht (by omega) (by omega) hd1)
    · simp only [w3_2 hc hi, oU_n (show (2 : Int) ≠ 0 by omega)] at g
      refine Or.inr (Or.inr (Or.inl ⟨?_, by rw [kl_2]; exact g _ _⟩))
      unfold tp_O_place
      exact Or.inl (tpC2 hk (by omega) (by omega) hi)
  · simp only [w3_1 hc, oU_n (show (1 : Int) ≠ 0 by omega)] at g
    refine Or.inr (Or.inl ⟨?_, by rw [kl_1]; exact g _ _⟩)
    unfold tp_O_place
    rw [cI_f hc]
    exact Or.inl (tpC0 _)
def nrP (X Y : Nat → Int) (N : Nat) (sh er : Int) (k : Nat) (t e : Int) : Prop := NRl X Y N (vF X Y N sh er k) (vL X Y N sh er k) (oPV X N (vF X Y N sh er k) (vL X Y N sh er k) (vU X Y N sh er k) t) (oPV Y N (vF X Y N sh er k) (vL X Y N sh er k) (vU X Y N sh er k) t) e
theorem X_near {X Y : Nat → Int} {N S : Nat} {sh er : Int} {b c : Prop} {ff fl fp gx gy hx hy : Nat → Int32} (hC : c → b ∧ PG X Y N ∧ (N ≤ S ∧ S < 10000) ∧ (∀ j, j < N → gx j = iI (X j) ∧ gy j = iI (Y j)) ∧ VR X Y N sh er (vN X Y N sh er) ff fl fp) {k t e : Int} (hk : (-2147483648 ≤ k ∧ k < 2147483648)) (ht : (-2147483648 ≤ t ∧ t < 2147483648)) (he : (-2147483648 ≤ e ∧ e < 2147483648)) {fO : Nat → Int64} {post : Int32 → ((Nat → Int32) × (Nat → Int32) × (Nat → Int64)) → Prop} (g : ∀ u v, post (iI (ow3 c (inN (vN X Y N sh er) k) ((0 ≤ t ∧ t ≤ 8) ∧ 0 ≤ e ∧ e ≤ 64))) (u, v, oU (ow3 c (inN (vN X Y N sh er) k) ((0 ≤ t ∧ t ≤ 8) ∧ 0 ≤ e ∧ e ≤ 64)) (cI (nrP X Y N sh er k.toNat t e) 1 0) fO)) : ww_L_near S S S S 4 S 4 1 (iI (cI c ((vN X Y N sh er : Nat) : Int) 0)) ff fl fp (iI (cI b (N : Int) 0)) gx hx gy hy fO (iI k) (iI t) (iI e) post := by
  unfold ww_L_near
  by_cases hc : c
  · obtain ⟨hb, hG, hS, hX, hV⟩ := hC hc
    have hN := hG.1
    have hnb := vN_b hG sh er
    rw [cI_t hc, cI_t hb]
    by_cases hi : inN (vN X Y N sh er) k
    · by_cases hd : (0 ≤ t ∧ t ≤ 8) ∧ 0 ≤ e ∧ e ≤ 64
      · simp only [w3_0 hc hi hd] at g
        obtain ⟨j, rfl⟩ : ∃ j : Nat, k = (j : Int) := ⟨k.toNat, by have := hi.1; omega⟩
        rw [Int.toNat_natCast] at g
        have hj : j < vN X Y N sh er := by have := hi.2; omega
        have hx := hV j hj
        have hvb := vB hG sh er hj
        left
        unfold wp_L_near
        refine ⟨fun r _ => r = bI (nrP X Y N sh er j t e), ?_, fun r u0 u1 hr => ?_⟩
        · unfold wp_O_near
          rw [iI_z, kl_8, kl_64]
          refine call_0 (fun Q q => rqC hk (by omega) hi q) (call_0 (fun Q q => t_O_requireRange ht (by omega) (by omega) hd.1 q) (call_0 (fun Q q => t_O_requireRange he (by omega) (by omega) hd.2 q) ?_))
          refine ⟨fun r _ => r = bI (nrP X Y N sh er j t e), t_C_isNear hG hS hX (by omega) hx hvb.1 hvb.2.1 hvb.2.2 hd.1 hd.2 (fun _ _ => rfl), ?_⟩
          rintro r u0 u1 hr
          have hr : r = _ := hr; subst hr
          exact ⟨by rw [kl_1]; exact bI_01 _, rfl⟩
        · have hr : r = _ := hr; subst hr
          have g := g u0 u1
          have fin : ∀ v : Int, (v = 0 ∨ v = 1) → cI (nrP X Y N sh er j t e) 1 0 = v → ∀ y : Int64, y = (iI v).toInt64 → wp_L_near_J18 S S S S 4 S 4 1 (iI ((vN X Y N sh er : Nat) : Int)) ff fl fp (iI (N : Int)) gx gy u0 u1 fO y 0 post := by
            intro v hv h1 y hy
            subst hy
            rw [h1] at g
            unfold wp_L_near_J18
            exact fin0 (by rw [iI_z]; exact g)
          rw [iI_z, bI_0]
          rw [← iI_z]
          refine ⟨fun w => fin 0 (Or.inl rfl) (cI_f w) _ ?_, fun w => fin 1 (Or.inr rfl) (cI_t (Classical.not_not.1 w)) _ ?_⟩
          · rw [lI_i (by omega) (by omega)]; exact lI_lit 0
          · rw [lI_i (by omega) (by omega)]; exact lI_lit 1
      · simp only [w3_3 hc hi hd, oU_n (show (3 : Int) ≠ 0 by omega)] at g
        refine Or.inr (Or.inr (Or.inr ⟨?_, by rw [kl_3]; exact g _ _⟩))
        unfold tp_O_near
        rw [iI_z, kl_8, kl_64]
        refine Or.inr (call_0 (fun Q q => rqC hk (by omega) hi q) ?_)
        by_cases hd1 : 0 ≤ t ∧ t ≤ 8
        · exact Or.inr (call_0 (fun Q q => t_O_requireRange ht (by omega) (by omega) hd1 q) (Or.inl (tpR he (by omega) (by omega) (fun w => hd ⟨hd1, w⟩))))
        · exact Or.inl (tpR ht (by omega) (by omega) hd1)
    · simp only [w3_2 hc hi, oU_n (show (2 : Int) ≠ 0 by omega)] at g
      refine Or.inr (Or.inr (Or.inl ⟨?_, by rw [kl_2]; exact g _ _⟩))
      unfold tp_O_near
      exact Or.inl (tpC2 hk (by omega) (by omega) hi)
  · simp only [w3_1 hc, oU_n (show (1 : Int) ≠ 0 by omega)] at g
    refine Or.inr (Or.inl ⟨?_, by rw [kl_1]; exact g _ _⟩)
    unfold tp_O_near
    rw [cI_f hc]
    exact Or.inl (tpC0 _)
