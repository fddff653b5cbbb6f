theorem aA_b {J T : Int → Int → Prop} {W H : Nat} (hJ : Box J W H) {s : Sd} (h : sV J s) (k : Nat) : -16 * (k : Int) ≤ aA J T s k ∧ aA J T s k ≤ 16 * k := by
  refine sm_b (fun j _ => ?_)
  have hb := sV_box hJ (it_V (T := T) h j)
  have hW := hJ.1
  rcases dd1 (it_V (T := T) h j).1 with z | z | z | z <;> rw [z.2.1] <;> omega
theorem t_M_walk {W H : Nat} {C : Nat → Nat → Int} {ff fs fl fa fx fy fc fu : Nat → Int32} {l t sp : Int} {x y cnt b : Nat} {V : Int → Int → Prop} {post : (Int32 × Int32 × (Nat → Int32) × (Nat → Int32) × (Nat → Int32) × (Nat → Int32) × (Nat → Int32) × (Nat → Int32) × (Nat → Int32)) → Prop}
    (hp : Pic W H C) (hc : PicM C fc) (hl : 1 ≤ l ∧ l ≤ 7) (ht : 0 ≤ t ∧ t ≤ 3) (hsp : 0 ≤ sp ∧ sp ≤ 256) (hs : sV (Ins W H C l) ((x : Int), (y : Int), 0))
    (hcnt : cnt < 900) (hX : b + oN (Ins W H C l) (TT W H C l t) ((x : Int), (y : Int), 0) ≤ 3600) (hu : WkM V fu)
    (g : ∀ fu', WkM (rv (Ins W H C l) (TT W H C l t) ((x : Int), (y : Int), 0) V (oN (Ins W H C l) (TT W H C l t) ((x : Int), (y : Int), 0))) fu' →
      ((sp < (aA (Ins W H C l) (TT W H C l t) ((x : Int), (y : Int), 0) (oN (Ins W H C l) (TT W H C l t) ((x : Int), (y : Int), 0))).natAbs →
      post (iI ((cnt + 1 : Nat)), iI ((b + oN (Ins W H C l) (TT W H C l t) ((x : Int), (y : Int), 0) : Nat)), upd ff cnt (iI b), upd fs cnt (iI ((oN (Ins W H C l) (TT W H C l t) ((x : Int), (y : Int), 0) : Nat))), upd fl cnt (iI l), upd fa cnt (iI (aA (Ins W H C l) (TT W H C l t) ((x : Int), (y : Int), 0) (oN (Ins W H C l) (TT W H C l t) ((x : Int), (y : Int), 0)))), wr fx b (oN (Ins W H C l) (TT W H C l t) ((x : Int), (y : Int), 0)) (fun k => (it (Ins W H C l) (TT W H C l t) ((x : Int), (y : Int), 0) k).1), wr fy b (oN (Ins W H C l) (TT W H C l t) ((x : Int), (y : Int), 0)) (fun k => (it (Ins W H C l) (TT W H C l t) ((x : Int), (y : Int), 0) k).2.1), fu')) ∧
      (¬ sp < (aA (Ins W H C l) (TT W H C l t) ((x : Int), (y : Int), 0) (oN (Ins W H C l) (TT W H C l t) ((x : Int), (y : Int), 0))).natAbs →
      post (iI cnt, iI b, ff, fs, fl, fa, wr fx b (oN (Ins W H C l) (TT W H C l t) ((x : Int), (y : Int), 0)) (fun k => (it (Ins W H C l) (TT W H C l t) ((x : Int), (y : Int), 0) k).1), wr fy b (oN (Ins W H C l) (TT W H C l t) ((x : Int), (y : Int), 0)) (fun k => (it (Ins W H C l) (TT W H C l t) ((x : Int), (y : Int), 0) k).2.1), fu')))) :
    wp_M_walk 900 900 900 900 3600 3600 256 256 (iI W) (iI H) (iI cnt) (iI b) ff fs fl fa fx fy fc fu (iI l) (iI x) (iI y) (iI t) (iI sp) post := by
  have hJ := Ins_box hp l
  have hW := hp.1; have hH := hp.2.1
  obtain ⟨n0, n1, n2⟩ := oN_s (T := TT W H C l t) hJ hs
  have hxy : (x : Int) < W ∧ (y : Int) < H := by have := sV_box hJ hs; simp at this; omega
  generalize hJd : Ins W H C l = J at *
  generalize hTd : TT W H C l t = T at *
  generalize hsd : (((x : Int), (y : Int), (0 : Int)) : Sd) = s at *
  generalize hN : oN J T s = N at *
  unfold wp_M_walk
  simp only [iI_lit, iI_neg, iI_add, iI_sub, iI_mul, iI_nI, iI_ofNat, iI_lt, iI_le, iI_eq, iI_cl, bI_0, bI_1, forall_eq, forall_eq_apply_imp_iff, not_true_eq_false, not_false_eq_true, ne_eq, Classical.not_not]
  refine lp_n (fun k z => z.1 = iI (it J T s k).1 ∧ z.2.1 = iI (it J T s k).2.1 ∧ z.2.2.1 = iI (it J T s k).2.2 ∧ z.2.2.2.1 = iI (aA J T s k) ∧ z.2.2.2.2.1 = bI (k < N) ∧ z.2.2.2.2.2.1 = iI ((b + k : Nat)) ∧ z.2.2.2.2.2.2.1 = wr fx b k (fun k => (it J T s k).1) ∧ z.2.2.2.2.2.2.2.1 = wr fy b k (fun k => (it J T s k).2.1) ∧ WkM (rv J T s V k) z.2.2.2.2.2.2.2.2) N ⟨0, by omega, ?_, ?_, ?_, rfl, (bI_t n0).symm, rfl, (wr_0 _ _ _).symm, (wr_0 _ _ _).symm, ?_⟩ ?_
  · rw [← hsd]; rfl
  · rw [← hsd]; rfl
  · rw [← hsd]; rfl
  · exact WkM_c hu (fun a b => ⟨fun q => q.elim id (fun ⟨j, h1, _⟩ => by omega), Or.inl⟩)
  rintro k ⟨a7, a8, a9, a10, a11, ap, gx, gy, gu⟩ back hk ⟨h1, h2, h3, h4, h5, h6, h7, h8, h9⟩ hback
  have h1 : a7 = _ := h1; have h2 : a8 = _ := h2; have h3 : a9 = _ := h3; have h4 : a10 = _ := h4; have h5 : a11 = _ := h5; have h6 : ap = _ := h6; have h7 : gx = _ := h7; have h8 : gy = _ := h8
  have h9 : WkM (rv J T s V k) gu := h9
  subst h1 h2 h3 h4 h5 h6 h7 h8
  have hv := it_V (T := T) hs k
  have hbx := sV_box hJ hv
  have hA := aA_b (T := T) hJ hs k
  simp (disch := omega) only [wp_M_walk_L21, wp_M_walk_J174, iI_lit, iI_neg, iI_add, iI_sub, iI_mul, iI_nI, iI_ofNat, iI_lt, iI_le, iI_eq, iI_cl, bI_0, bI_1, forall_eq, forall_eq_apply_imp_iff, not_true_eq_false, not_false_eq_true, ne_eq, Classical.not_not]
  refine ⟨fun q => ?_, fun q => ?_⟩
  · obtain rfl : k = N := by omega
    have g := g gu h9
    rw [Int.toNat_natCast, show (((b + k : Nat) : Int) - b) = (k : Int) by omega, show (cnt : Int) + 1 = ((cnt + 1 : Nat) : Int) by omega]
    have i1 : vp_in (iI (cnt : Int)) 900 := iI_in (by omega) (by omega) (by omega)
    refine ⟨fun q2 => ⟨i1, i1, i1, i1, g.1 (by omega)⟩, fun q2 => ⟨fun q3 => ⟨i1, i1, i1, i1, g.1 (by omega)⟩, fun q3 => g.2 (by omega)⟩⟩
  · have hkN : k < N := q
    have hv' := it_V (T := T) hs (k + 1)
    have hbx' := sV_box hJ hv'
    have hd : 0 ≤ (it J T s k).2.2 ∧ (it J T s k).2.2 ≤ 3 := hv.1
    have key : ∀ gu', WkM (rv J T s V (k + 1)) gu' → wp_M_walk_J45 900 900 900 900 3600 3600 256 256 (iI W) (iI H) fc (iI cnt) (iI ((b + k : Nat))) ff fs fl fa (wr fx b k (fun k => (it J T s k).1)) (wr fy b k (fun k => (it J T s k).2.1)) gu' (iI l) (iI x) (iI y) (iI t) (iI sp) (iI b) (iI (it J T s k).1) (iI (it J T s k).2.1) (iI (it J T s k).2.2) (iI (aA J T s k)) back post := by
      intro gu' hu'
      have fin : ∀ o, o = bI (k + 1 < N) → back (iI (it J T s (k + 1)).1, iI (it J T s (k + 1)).2.1, iI (it J T s (k + 1)).2.2, iI (aA J T s (k + 1)), o, iI (((b + k : Nat) : Int) + 1), wr fx b (k + 1) (fun k => (it J T s k).1), wr fy b (k + 1) (fun k => (it J T s k).2.1), gu') := by
        rintro o rfl
        refine hback _ (by omega) ⟨rfl, rfl, rfl, rfl, rfl, ?_, rfl, rfl, hu'⟩
        show iI _ = iI _; congr 1
      unfold wp_M_walk_J45 wp_M_walk_J142 wp_M_walk_J147
      simp (disch := omega) only [iI_lit, iI_neg, iI_add, iI_sub, iI_mul, iI_nI, iI_ofNat, iI_lt, iI_le, iI_eq, iI_cl, bI_0, bI_1, forall_eq, forall_eq_apply_imp_iff, not_true_eq_false, not_false_eq_true, ne_eq, Classical.not_not]
      rw [Int.toNat_natCast, wr_s fx b k (fun k => (it J T s k).1), wr_s fy b k (fun k => (it J T s k).2.1)]
      refine ⟨iI_in (by omega) (by omega) (by omega), iI_in (by omega) (by omega) (by omega), ?_⟩
      refine call_i (fun Q q => t_M_stepY hd q) ?_
      refine call_i (fun Q q => t_M_stepX hd q) ?_
      refine call_i (fun Q q => t_M_stepY hd q) ?_
      simp only [iI_lit, iI_neg, iI_add, iI_sub, iI_mul, iI_nI, iI_ofNat, iI_lt, iI_le, iI_eq, iI_cl, bI_0, bI_1, forall_eq, forall_eq_apply_imp_iff, not_true_eq_false, not_false_eq_true, ne_eq, Classical.not_not]
      have ex : (it J T s (k + 1)).1 = (it J T s k).1 + ddx (it J T s k).2.2 := rfl
      have ey : (it J T s (k + 1)).2.1 = (it J T s k).2.1 + ddy (it J T s k).2.2 := rfl
      have ea : aA J T s (k + 1) = aA J T s k + (it J T s k).1 * ddy (it J T s k).2.2 := rfl
      rw [← ex, ← ey, ← ea]
      refine call_i (v := iI (it J T s (k + 1)).2.2) (fun Q q => t_M_next hp hc (by omega) (by omega) (by omega) ht hd (by rw [hJd, hTd]; exact q)) ?_
      have hse : it J T s (k + 1) = s ↔ ((it J T s (k + 1)).1 = x ∧ (it J T s (k + 1)).2.1 = y ∧ (it J T s (k + 1)).2.2 = 0) := by
        rw [← hsd]
        constructor
        · intro e; rw [e]; exact ⟨rfl, rfl, rfl⟩
        · rintro ⟨p1, p2, p3⟩; exact Prod.ext p1 (Prod.ext p2 p3)
      have hopen : k + 1 < N ↔ ¬ it J T s (k + 1) = s := by
        constructor
        · intro z; exact n2 _ (by omega) z
        · intro z
          refine Classical.byContradiction (fun z2 => z ?_)
          rw [show k + 1 = N by omega]; exact n1
      simp (disch := omega) only [iI_lit, iI_neg, iI_add, iI_sub, iI_mul, iI_nI, iI_ofNat, iI_lt, iI_le, iI_eq, iI_cl, bI_0, bI_1, forall_eq, forall_eq_apply_imp_iff, not_true_eq_false, not_false_eq_true, ne_eq, Classical.not_not]
      refine ⟨fun z => ?_, fun z => ⟨fun z2 => ?_, fun z2 => ⟨fun z3 => ?_, fun z3 => ?_⟩⟩⟩
      · exact fin _ (bI_t (hopen.2 (fun e => z (hse.1 e).1))).symm
      · exact fin _ (bI_t (hopen.2 (fun e => z2 (hse.1 e).2.1))).symm
      · exact fin _ (bI_f (fun e => hopen.1 e (hse.2 ⟨z, z2, z3⟩))).symm
      · exact fin _ (bI_t (hopen.2 (fun e => z3 (hse.1 e).2.2))).symm
    refine ⟨fun q3 => ?_, fun q3 => ?_⟩
    · exact key gu (WkM_c h9 (fun a b => by
        rw [rv_s]; exact ⟨fun z => z.elim id (fun z => absurd (by rw [z]) q3), Or.inl⟩))
    · obtain ⟨xn, hxn⟩ : ∃ xn : Nat, (it J T s k).1 = xn := ⟨_, (Int.toNat_of_nonneg (by omega)).symm⟩
      obtain ⟨yn, hyn⟩ : ∃ yn : Nat, (it J T s k).2.1 = yn := ⟨_, (Int.toNat_of_nonneg (by omega)).symm⟩
      rw [show (16 * (it J T s k).2.1 + (it J T s k).1).toNat = 16 * yn + xn by omega, nar_1z]
      refine ⟨iI_in (by omega) (by omega) (by omega), ?_⟩
      refine key _ (WkM_set h9 (by omega) (fun a b => ?_))
      rw [rv_s]
      constructor
      · rintro (z | z)
        · exact Or.inl z
        · refine Or.inr ?_
          have z1 : (it J T s k).1 = a := by rw [z]
          have z2 : (it J T s k).2.1 = b := by rw [z]
          omega
      · rintro (z | ⟨rfl, rfl⟩)
        · exact Or.inl z
        · exact Or.inr (Prod.ext hxn (Prod.ext hyn q3))
