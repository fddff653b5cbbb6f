-- one walk, both sides
def WkC (W H : Nat) (V : Int → Int → Prop) (f : Nat → Int32) : Prop := ∀ x y : Nat, x < W → y < H → f (y * W + x) = bI (V x y)
def WkM (V : Int → Int → Prop) (f : Nat → Int32) : Prop := ∀ x y : Nat, x < 16 → y < 16 → f (16 * y + x) = bI (V x y)
theorem WkC_set {W H : Nat} {V V' : Int → Int → Prop} {f : Nat → Int32} {x y : Nat} (h : WkC W H V f) (hx : x < W) (hv : ∀ a b : Nat, V' a b ↔ (V a b ∨ (a = x ∧ b = y))) : WkC W H V' (upd f (y * W + x) (iI 1)) := by
  intro a b ha hb
  show (if b * W + a = y * W + x then iI 1 else f (b * W + a)) = bI (V' a b)
  by_cases e : a = x ∧ b = y
  · rw [if_pos (by rw [e.1, e.2]), bI_t ((hv a b).2 (Or.inr e))]
  · rw [if_neg (fun k => e (ix_inj ha hx k)), h a b ha hb]
    exact bI_c (by rw [hv a b]; exact ⟨Or.inl, fun z => z.elim id (fun z => absurd z e)⟩)
theorem WkM_set {V V' : Int → Int → Prop} {f : Nat → Int32} {x y : Nat} (h : WkM V f) (hx : x < 16) (hv : ∀ a b : Nat, V' a b ↔ (V a b ∨ (a = x ∧ b = y))) : WkM V' (upd f (16 * y + x) (iI 1)) := by
  intro a b ha hb
  show (if 16 * b + a = 16 * y + x then iI 1 else f (16 * b + a)) = bI (V' a b)
  by_cases e : a = x ∧ b = y
  · rw [if_pos (by omega), bI_t ((hv a b).2 (Or.inr e))]
  · rw [if_neg (by omega), h a b ha hb]
    exact bI_c (by rw [hv a b]; exact ⟨Or.inl, fun z => z.elim id (fun z => absurd z e)⟩)
theorem WkC_c {W H : Nat} {V V' : Int → Int → Prop} {f : Nat → Int32} (h : WkC W H V f) (hv : ∀ a b : Nat, V' a b ↔ V a b) : WkC W H V' f := fun a b ha hb => by rw [h a b ha hb]; exact (bI_c (hv a b)).symm
theorem WkM_c {V V' : Int → Int → Prop} {f : Nat → Int32} (h : WkM V f) (hv : ∀ a b : Nat, V' a b ↔ V a b) : WkM V' f := fun a b ha hb => by rw [h a b ha hb]; exact (bI_c (hv a b)).symm
theorem Ins_box {W H : Nat} {C : Nat → Nat → Int} (hp : Pic W H C) (l : Int) : Box (Ins W H C l) W H := ⟨hp.1, hp.2.1, fun _ _ h => ⟨h.1, h.2.1, h.2.2.1, h.2.2.2.1⟩⟩
-- rightward sides among the first k
def rv (J T : Int → Int → Prop) (s : Sd) (V : Int → Int → Prop) (k : Nat) (x y : Int) : Prop := V x y ∨ ∃ j, j < k ∧ it J T s j = (x, y, 0)
theorem rv_s {J T : Int → Int → Prop} {s : Sd} {V : Int → Int → Prop} {k : Nat} (x y : Int) : rv J T s V (k + 1) x y ↔ (rv J T s V k x y ∨ it J T s k = (x, y, 0)) := by
  unfold rv
  constructor
  · rintro (q | ⟨j, h1, h2⟩)
    · exact Or.inl (Or.inl q)
    · by_cases e : j = k
      · subst e; exact Or.inr h2
      · exact Or.inl (Or.inr ⟨j, by omega, h2⟩)
  · rintro ((q | ⟨j, h1, h2⟩) | q)
    · exact Or.inl q
    · exact Or.inr ⟨j, by omega, h2⟩
    · exact Or.inr ⟨k, by omega, q⟩
-- a row written from b on
noncomputable def wr (f : Nat → Int32) (b k : Nat) (v : Nat → Int) : Nat → Int32 := fun j => if b ≤ j ∧ j < b + k then iI (v (j - b)) else f j
theorem wr_0 (f : Nat → Int32) (b : Nat) (v : Nat → Int) : wr f b 0 v = f := by
  funext j; unfold wr; rw [if_neg (by omega)]
theorem wr_s (f : Nat → Int32) (b k : Nat) (v : Nat → Int) : upd (wr f b k v) (b + k) (iI (v k)) = wr f b (k + 1) v := by
  funext j
  show (if j = b + k then iI (v k) else wr f b k v j) = wr f b (k + 1) v j
  unfold wr
  by_cases e : j = b + k
  · subst e; rw [if_pos rfl, if_pos (by omega)]; congr 2; omega
  · rw [if_neg e]
    by_cases e2 : b ≤ j ∧ j < b + k
    · rw [if_pos e2, if_pos (by omega)]
    · rw [if_neg e2, if_neg (by omega)]
theorem nar_1b : vp_nar .byte (iI 1) = iI 1 := nar_b (by omega) (by omega)
theorem nar_1z : vp_nar .boolean (iI 1) = iI 1 := by rw [iI_d]; decide +kernel
theorem nar_0z : vp_nar .boolean (iI 0) = iI 0 := by rw [iI_d]; decide +kernel
theorem t_U_walk {W H : Nat} {C : Nat → Nat → Int} {nc nb nl na nX nY nw : Nat} {fc fb fl fa fx fy fw : Nat → Int32} {l t : Int} {x y cnt b : Nat} {V : Int → Int → Prop} {post : ((Nat → Int32) × (Nat → Int32) × (Nat → Int32) × (Nat → Int32) × (Nat → Int32) × (Nat → Int32)) → Prop}
    (hp : Pic W H C) (hc : PicC W H C nc fc) (hl : 1 ≤ l ∧ l ≤ 7) (ht : 0 ≤ t ∧ t ≤ 3) (hs : sV (Ins W H C l) ((x : Int), (y : Int), 0))
    (hb : fb cnt = iI b) (hcnt : cnt < nl) (hnl : nl < 100000) (hna : na = nl) (hnb : nb = nl + 1) (hX : b + oN (Ins W H C l) (TT W H C l t) ((x : Int), (y : Int), 0) ≤ nX) (hY : nY = nX) (hXX : nX < 100000) (hnw : nw = W * H) (hw : WkC W H V fw)
    (g : ∀ fw', WkC W H (rv (Ins W H C l) (TT W H C l t) ((x : Int), (y : Int), 0) V (oN (Ins W H C l) (TT W H C l t) ((x : Int), (y : Int), 0))) fw' →
      post (upd fb (cnt + 1) (iI ((b + oN (Ins W H C l) (TT W H C l t) ((x : Int), (y : Int), 0) : Nat))), upd fl cnt (iI l), upd fa cnt (iI (aA (Ins W H C l) (TT W H C l t) ((x : Int), (y : Int), 0) (oN (Ins W H C l) (TT W H C l t) ((x : Int), (y : Int), 0)))), wr fx b (oN (Ins W H C l) (TT W H C l t) ((x : Int), (y : Int), 0)) (fun k => (it (Ins W H C l) (TT W H C l t) ((x : Int), (y : Int), 0) k).1), wr fy b (oN (Ins W H C l) (TT W H C l t) ((x : Int), (y : Int), 0)) (fun k => (it (Ins W H C l) (TT W H C l t) ((x : Int), (y : Int), 0) k).2.1), fw')) :
    wp_U_walk nb nl na nX nY nc nw (iI cnt) fb fl fa fx fy (iI W) (iI H) fc fw (iI x) (iI y) (iI l) (iI t) post := by
  have hJ := Ins_box hp l
  have hW := hp.1; have hH := hp.2.1
  have e3 := Nat.mul_le_mul hW.2 hH.2
  obtain ⟨n0, n1, n2⟩ := oN_s (T := TT W H C l t) hJ hs
  have hAB := aAB_n (T := TT W H C l t) hJ hs
  have hxy : (x : Int) < W ∧ (y : Int) < H := by have := sV_box hJ hs; simp at this; omega
  generalize hJd : Ins W H C l = J at *
  generalize hTd : TT W H C l t = T at *
  generalize hsd : (((x : Int), (y : Int), (0 : Int)) : Sd) = s at *
  generalize hN : oN J T s = N at *
  unfold wp_U_walk
  simp (disch := omega) only [iI_lit, iI_neg, iI_add, iI_sub, iI_mul, iI_nI, iI_ofNat, iI_lt, iI_le, iI_eq, iI_cl, bI_0, bI_1, forall_eq, forall_eq_apply_imp_iff, not_true_eq_false, not_false_eq_true, ne_eq, Classical.not_not, Int.toNat_natCast, hb]
  refine ⟨iI_in (by omega) (by omega) (by omega), ?_⟩
  refine lp_n (fun k z => z.1 = iI (aB J T s k) ∧ z.2.1 = iI (it J T s k).1 ∧ z.2.2.1 = iI (it J T s k).2.1 ∧ z.2.2.2.1 = iI (it J T s k).2.2 ∧ z.2.2.2.2.1 = iI ((b + k : Nat)) ∧ z.2.2.2.2.2.1 = bI (k < N) ∧ z.2.2.2.2.2.2.1 = wr fx b k (fun k => (it J T s k).1) ∧ z.2.2.2.2.2.2.2.1 = wr fy b k (fun k => (it J T s k).2.1) ∧ WkC W H (rv J T s V k) z.2.2.2.2.2.2.2.2) N ⟨0, by omega, rfl, ?_, ?_, ?_, rfl, (bI_t n0).symm, (wr_0 _ _ _).symm, (wr_0 _ _ _).symm, ?_⟩ ?_
  · rw [← hsd]; rfl
  · rw [← hsd]; rfl
  · rw [← hsd]; rfl
  · exact WkC_c hw (fun a b => ⟨fun q => q.elim id (fun ⟨j, h1, _⟩ => by omega), Or.inl⟩)
  rintro k ⟨a5, a6, a7, a8, a9, a10, gx, gy, gw⟩ back hk ⟨h1, h2, h3, h4, h5, h6, h7, h8, h9⟩ hback
  have h1 : a5 = _ := h1; have h2 : a6 = _ := h2; have h3 : a7 = _ := h3; have h4 : a8 = _ := h4; have h5 : a9 = _ := h5; have h6 : a10 = _ := h6; have h7 : gx = _ := h7; have h8 : gy = _ := h8
  have h9 : WkC W H (rv J T s V k) gw := h9
  subst h1 h2 h3 h4 h5 h6 h7 h8
  have hv := it_V (T := T) hs k
  have hbx := sV_box hJ hv
  have ab : -(16 * 600 : Int) ≤ 0 := by omega
  simp (disch := omega) only [wp_U_walk_L26, wp_U_walk_J189, iI_lit, iI_neg, iI_add, iI_sub, iI_mul, iI_nI, iI_ofNat, iI_lt, iI_le, iI_eq, iI_cl, bI_0, bI_1, forall_eq, forall_eq_apply_imp_iff, not_true_eq_false, not_false_eq_true, ne_eq, Classical.not_not]
  refine ⟨fun q => ?_, fun q => ⟨fun q2 => by omega, fun q2 => ?_⟩⟩
  · obtain rfl : k = N := by omega
    rw [nar_b2 (by omega) (by omega), hAB]
    refine ⟨iI_in (by omega) (by omega) (by omega), iI_in (by omega) (by omega) (by omega), iI_in (by omega) (by omega) (by omega), ?_⟩
    rw [show ((cnt : Int) + 1).toNat = cnt + 1 by omega]
    exact g gw h9
  · have hkN : k < N := q
    refine ⟨iI_in (by omega) (by omega) (by omega), iI_in (by omega) (by omega) (by omega), ?_⟩
    have hv' := it_V (T := T) hs (k + 1)
    have hbx' := sV_box hJ hv'
    have nxt : it J T s (k + 1) = ((it J T s k).1 + ddx (it J T s k).2.2, (it J T s k).2.1 + ddy (it J T s k).2.2, tD J T ((it J T s k).1 + ddx (it J T s k).2.2) ((it J T s k).2.1 + ddy (it J T s k).2.2) (it J T s k).2.2) := rfl
    have key : ∀ gw', WkC W H (rv J T s V (k + 1)) gw' → wp_U_walk_J125 nb nl na nX nY nc nw (iI cnt) (iI W) (iI H) fc fb fl fa (wr fx b (k + 1) (fun k => (it J T s k).1)) (wr fy b (k + 1) (fun k => (it J T s k).2.1)) gw' (iI x) (iI y) (iI l) (iI t) (iI (aB J T s (k + 1))) (iI (it J T s k).1) (iI (it J T s k).2.1) (iI (it J T s k).2.2) (iI ((b : Int) + k + 1)) back post := by
      intro gw' hw'
      have fin : ∀ o, o = bI (k + 1 < N) → back (iI (aB J T s (k + 1)), iI (it J T s (k + 1)).1, iI (it J T s (k + 1)).2.1, iI (it J T s (k + 1)).2.2, iI ((b : Int) + k + 1), o, wr fx b (k + 1) (fun k => (it J T s k).1), wr fy b (k + 1) (fun k => (it J T s k).2.1), gw') := by
        rintro o rfl
        refine hback _ (by omega) ⟨rfl, rfl, rfl, rfl, ?_, rfl, rfl, rfl, hw'⟩
        show iI _ = iI _; congr 1
      unfold wp_U_walk_J125 wp_U_walk_J179 wp_U_walk_J184
      have hd : 0 ≤ (it J T s k).2.2 ∧ (it J T s k).2.2 ≤ 3 := hv.1
      simp (disch := omega) only [iI_lit, iI_neg, iI_add, iI_sub, iI_mul, iI_nI, iI_ofNat, iI_lt, iI_le, iI_eq, iI_cl, bI_0, bI_1, forall_eq, forall_eq_apply_imp_iff, not_true_eq_false, not_false_eq_true, ne_eq, Classical.not_not, tb_sX hd, tb_sY hd]
      have ex : (it J T s (k + 1)).1 = (it J T s k).1 + ddx (it J T s k).2.2 := rfl
      have ey : (it J T s (k + 1)).2.1 = (it J T s k).2.1 + ddy (it J T s k).2.2 := rfl
      rw [← ex, ← ey]
      refine ⟨iI_in (by omega) (by omega) (by omega), iI_in (by omega) (by omega) (by omega), ?_⟩
      refine call_i (v := iI (it J T s (k + 1)).2.2) (fun Q q => t_U_directionFrom hp hc (by omega) (by omega) (by omega) ht hd (by rw [hJd, hTd]; exact q)) ?_
      have hse : it J T s (k + 1) = s ↔ ((it J T s (k + 1)).1 = x ∧ (it J T s (k + 1)).2.1 = y ∧ (it J T s (k + 1)).2.2 = 0) := by
        rw [← hsd]
        constructor
        · intro e; rw [e]; exact ⟨rfl, rfl, rfl⟩
        · rintro ⟨p1, p2, p3⟩; exact Prod.ext p1 (Prod.ext p2 p3)
      have hopen : k + 1 < N ↔ ¬ it J T s (k + 1) = s := by
        constructor
        · intro z; exact n2 _ (by omega) z
        · intro z
          refine Classical.byContradiction (fun z2 => z ?_)
          rw [show k + 1 = N by omega]; exact n1
      simp (disch := omega) only [iI_lit, iI_neg, iI_add, iI_sub, iI_mul, iI_nI, iI_ofNat, iI_lt, iI_le, iI_eq, iI_cl, bI_0, bI_1, forall_eq, forall_eq_apply_imp_iff, not_true_eq_false, not_false_eq_true, ne_eq, Classical.not_not]
      refine ⟨fun z => ?_, fun z => ⟨fun z2 => ?_, fun z2 => ⟨fun z3 => ?_, fun z3 => ?_⟩⟩⟩
      · exact fin _ (bI_t (hopen.2 (fun e => z (hse.1 e).1))).symm
      · exact fin _ (bI_t (hopen.2 (fun e => z2 (hse.1 e).2.1))).symm
      · exact fin _ (bI_f (fun e => hopen.1 e (hse.2 ⟨z, z2, z3⟩))).symm
      · exact fin _ (bI_t (hopen.2 (fun e => z3 (hse.1 e).2.2))).symm
    have eS : aB J T s (k + 1) = aB J T s k + -((it J T s k).2.1 * ddx (it J T s k).2.2) := rfl
    rw [nar_b2 (by omega) (by omega), nar_b2 (by omega) (by omega)]
    rw [show (((b + k : Nat) : Int)).toNat = b + k by omega]
    rw [wr_s fx b k (fun k => (it J T s k).1), wr_s fy b k (fun k => (it J T s k).2.1)]
    have e9 : ((b + k : Nat) : Int) + 1 = (b : Int) + k + 1 := by omega
    rw [e9]
    refine ⟨fun q3 => ?_, fun q3 => ?_⟩
    · unfold wp_U_walk_J112
      simp (disch := omega) only [iI_lit, iI_neg, iI_add, iI_sub, iI_mul, iI_nI, iI_ofNat, iI_lt, iI_le, iI_eq, iI_cl, bI_0, bI_1, forall_eq, forall_eq_apply_imp_iff, not_true_eq_false, not_false_eq_true, ne_eq, Classical.not_not]
      have hw' : WkC W H (rv J T s V (k + 1)) gw := WkC_c h9 (fun a b => by
        rw [rv_s]; exact ⟨fun z => z.elim id (fun z => absurd (by rw [z]) q3), Or.inl⟩)
      refine ⟨fun q4 => ?_, fun q4 => ?_⟩
      · have : aB J T s (k + 1) = aB J T s k := by
          rw [eS]; rcases dd1 hv.1 with z | z | z | z <;> first | omega | (rw [z.1]; omega)
        rw [← this]; exact key gw hw'
      · have : aB J T s k + (it J T s k).2.1 = aB J T s (k + 1) := by
          rw [eS]; rcases dd1 hv.1 with z | z | z | z <;> first | omega | (rw [z.1]; omega)
        rw [this]; exact key gw hw'
    · refine call_i (fun Q q => t_P_has (by omega) (by omega) (by omega) (by omega) q) ?_
      simp (disch := omega) only [iI_lit, iI_neg, iI_add, iI_sub, iI_mul, iI_nI, iI_ofNat, iI_lt, iI_le, iI_eq, iI_cl, bI_0, bI_1, forall_eq, forall_eq_apply_imp_iff, not_true_eq_false, not_false_eq_true, ne_eq, Classical.not_not]
      refine ⟨fun q4 => by omega, fun q4 => ?_⟩
      obtain ⟨xn, hxn⟩ : ∃ xn : Nat, (it J T s k).1 = xn := ⟨_, (Int.toNat_of_nonneg (by omega)).symm⟩
      obtain ⟨yn, hyn⟩ : ∃ yn : Nat, (it J T s k).2.1 = yn := ⟨_, (Int.toNat_of_nonneg (by omega)).symm⟩
      have eI : (it J T s k).2.1 * (W : Int) + (it J T s k).1 = ((yn * W + xn : Nat) : Int) := by rw [hxn, hyn]; push_cast; rfl
      have e2 := ix_lt (x := xn) (y := yn) (W := W) (H := H) (by omega) (by omega)
      rw [eI, iI_cl (by omega) (by omega), Int.toNat_natCast, nar_1b]
      refine ⟨iI_in (by omega) (by omega) (by omega), ?_⟩
      have : aB J T s k - (it J T s k).2.1 = aB J T s (k + 1) := by
        rw [eS]; rcases dd1 hv.1 with z | z | z | z <;> first | omega | (rw [z.1]; omega)
      rw [this]
      refine key _ (WkC_set h9 (by omega) (fun a b => ?_))
      rw [rv_s]
      constructor
      · rintro (z | z)
        · exact Or.inl z
        · refine Or.inr ?_
          have z1 : (it J T s k).1 = a := by rw [z]
          have z2 : (it J T s k).2.1 = b := by rw [z]
          omega
      · rintro (z | ⟨rfl, rfl⟩)
        · exact Or.inl z
        · exact Or.inr (Prod.ext hxn (Prod.ext hyn q3))
