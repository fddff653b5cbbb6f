-- tracing, both sides
def RC (T : TS) (c : Int32) (fl fb fa fx fy : Nat → Int32) : Prop := c = iI T.1 ∧ (∀ o, o ≤ T.1 → fb o = iI (T.2.1 o)) ∧ (∀ o, o < T.1 → fl o = iI (T.2.2.2.2.1 o) ∧ fa o = iI (T.2.2.2.2.2.1 o)) ∧ ∀ k, k < T.2.1 T.1 → fx k = iI (T.2.2.1 k) ∧ fy k = iI (T.2.2.2.1 k)
def RM (T : TS) (c p : Int32) (ff fs fl fa fx fy : Nat → Int32) : Prop := c = iI T.1 ∧ p = iI (T.2.1 T.1) ∧ (∀ o, o < T.1 → ff o = iI (T.2.1 o) ∧ fs o = iI ((T.2.1 (o + 1) - T.2.1 o : Nat)) ∧ fl o = iI (T.2.2.2.2.1 o) ∧ fa o = iI (T.2.2.2.2.2.1 o)) ∧ ∀ k, k < T.2.1 T.1 → fx k = iI (T.2.2.1 k) ∧ fy k = iI (T.2.2.2.1 k)
def VSp (vs : List Sd) (x y : Int) : Prop := (x, y, (0 : Int)) ∈ vs
theorem VSp_app {J K : Int → Int → Prop} {s : Sd} {vs : List Sd} (a b : Int) : VSp (vs ++ ol J K s) a b ↔ rv J K s (VSp vs) (oN J K s) a b := by
  unfold VSp rv
  rw [List.mem_append]
  constructor
  · rintro (z | z)
    · exact Or.inl z
    · obtain ⟨j, h1, h2⟩ := List.mem_map.1 z
      exact Or.inr ⟨j, List.mem_range.1 h1, h2⟩
  · rintro (z | ⟨j, h1, h2⟩)
    · exact Or.inl z
    · exact Or.inr (List.mem_map.2 ⟨j, List.mem_range.2 h1, h2⟩)
theorem upd_n {f : Nat → Int32} {F : Nat → Int} {n : Nat} {v : Int} (h : ∀ o, o < n → f o = iI (F o)) (o : Nat) (ho : o < n + 1) : upd f n (iI v) o = iI (upN F n v o) := by
  show (if o = n then iI v else f o) = _
  by_cases e : o = n
  · rw [if_pos e, e, upN_t]
  · rw [if_neg e, upN_f _ _ e]; exact h o (by omega)
theorem upd_m {f : Nat → Int32} {F : Nat → Nat} {n v : Nat} (h : ∀ o, o ≤ n → f o = iI (F o)) (o : Nat) (ho : o ≤ n + 1) : upd f (n + 1) (iI v) o = iI ((upN F (n + 1) v o : Nat)) := by
  show (if o = n + 1 then iI v else f o) = _
  by_cases e : o = n + 1
  · rw [if_pos e, e, upN_t]
  · rw [if_neg e, upN_f _ _ e]; exact h o (by omega)
theorem upd_t (f : Nat → Int32) (k : Nat) (v : Int32) : upd f k v k = v := if_pos rfl
theorem upd_f (f : Nat → Int32) {k j : Nat} (v : Int32) (h : j ≠ k) : upd f k v j = f j := if_neg h
theorem wr_ext {f : Nat → Int32} {F : Nat → Int} {b n : Nat} {v : Nat → Int} (h : ∀ k, k < b → f k = iI (F k)) (k : Nat) (hk : k < b + n) : wr f b n v k = iI (ext F b v k) := by
  unfold wr ext
  by_cases e : k < b
  · rw [if_neg (by omega), if_pos e]; exact h k e
  · rw [if_pos (by omega), if_neg e]
theorem wr_low {f : Nat → Int32} {b n : Nat} {v : Nat → Int} {k : Nat} (hk : k < b) : wr f b n v k = f k := by
  unfold wr; rw [if_neg (by omega)]
theorem t_U_begins {W H : Nat} {C : Nat → Nat → Int} {nc nw : Nat} {fc fw : Nat → Int32} {x y : Nat} {l : Int} {vs : List Sd} {post : Int32 → Unit → Prop} (hp : Pic W H C) (hc : PicC W H C nc fc) (hl : 1 ≤ l ∧ l ≤ 7) (hnw : nw = W * H) (hw : WkC W H (VSp vs) fw) (hx : x < W) (hy : y < H) (g : post (bI (starts W H C l x y vs)) ()) : wp_U_beginsOutline nc nw (iI W) (iI H) fc fw (iI x) (iI y) (iI l) post := by
  have hW := hp.1; have hH := hp.2.1
  have e3 := Nat.mul_le_mul hW.2 hH.2
  unfold wp_U_beginsOutline wp_U_beginsOutline_J51
  refine call_i (fun Q q => t_P_isInside hp hc (by omega) (by omega) (by omega) q) ?_
  simp only [iI_lit, iI_neg, iI_add, iI_sub, iI_mul, iI_nI, iI_ofNat, iI_lt, iI_le, iI_eq, iI_cl, bI_0, bI_1, forall_eq, forall_eq_apply_imp_iff, not_true_eq_false, not_false_eq_true, ne_eq, Classical.not_not]
  refine ⟨fun q => ?_, fun q => ?_⟩
  · rwa [bI_f (fun z => q z.1)] at g
  refine call_i (fun Q q => t_P_isInside hp hc (by omega) (by omega) (by omega) q) ?_
  have e2 := ix_lt (x := x) (y := y) (W := W) (H := H) (by omega) (by omega)
  have eI : (y : Int) * (W : Int) + x = ((y * W + x : Nat) : Int) := by push_cast; rfl
  simp only [iI_lit, iI_neg, iI_add, iI_sub, iI_mul, iI_nI, iI_ofNat, iI_lt, iI_le, iI_eq, iI_cl, bI_0, bI_1, forall_eq, forall_eq_apply_imp_iff, not_true_eq_false, not_false_eq_true, ne_eq, Classical.not_not]
  rw [eI, iI_cl (by omega) (by omega), Int.toNat_natCast, hw x y hx hy]
  simp only [iI_lit, iI_neg, iI_add, iI_sub, iI_mul, iI_nI, iI_ofNat, iI_lt, iI_le, iI_eq, iI_cl, bI_0, bI_1, forall_eq, forall_eq_apply_imp_iff, not_true_eq_false, not_false_eq_true, ne_eq, Classical.not_not]
  refine ⟨fun q2 => ?_, fun q2 => ⟨iI_in (by omega) (by omega) (by omega), fun q3 => ?_, fun q3 => ?_⟩⟩
  · rwa [bI_f (fun z => z.2.1 q2)] at g
  · rwa [bI_f (fun z => z.2.2 q3)] at g
  · rwa [bI_t ⟨q, q2, q3⟩] at g
theorem t_U_addLayer {W H : Nat} {C : Nat → Nat → Int} {nw nc nl nb na nX nY : Nat} {c tr : Int32} {fw fc fl fb fa fx fy : Nat → Int32} {l : Nat} {t sp : Int} {T : TS} {post : (Int32 × Int32 × (Nat → Int32) × (Nat → Int32) × (Nat → Int32) × (Nat → Int32) × (Nat → Int32) × (Nat → Int32)) → Prop}
    (hp : Pic W H C) (hc : PicC W H C nc fc) (hl : l < 7) (ht : 0 ≤ t ∧ t ≤ 3) (hsp : 0 ≤ sp ∧ sp ≤ 256) (hnw : nw = W * H) (hnl : nl = 7 * (W * (H + 1) + H * (W + 1)) / 4) (hna : na = nl) (hnb : nb = nl + 1) (hX : nX = 7 * (W * (H + 1) + H * (W + 1))) (hY : nY = nX)
    (hT : TB W H l T) (hR : RC T c fl fb fa fx fy)
    (g : ∀ c' fw' fl' fb' fa' fx' fy', RC (syT W H C t sp ((l + 1 : Nat) : Int) T H) c' fl' fb' fa' fx' fy' → post (c', iI 1, fw', fl', fb', fa', fx', fy')) :
    wp_U_addLayer nw nc nl nb na nX nY c tr fw (iI W) (iI H) fc fl fb fa fx fy (iI ((l + 1 : Nat) : Int)) (iI t) (iI sp) post := by
  have hW := hp.1; have hH := hp.2.1
  have e3 := Nat.mul_le_mul hW.2 hH.2
  have e4 := Nat.mul_le_mul hW.2 (show H + 1 ≤ 17 by omega)
  have e5 := Nat.mul_le_mul hH.2 (show W + 1 ≤ 17 by omega)
  generalize hS : W * (H + 1) + H * (W + 1) = S at *
  have hS1 : S ≤ 544 := by omega
  unfold wp_U_addLayer
  simp only [iI_lit, iI_neg, iI_add, iI_sub, iI_mul, iI_nI, iI_ofNat, iI_lt, iI_le, iI_eq, iI_cl, bI_0, bI_1, forall_eq, forall_eq_apply_imp_iff, not_true_eq_false, not_false_eq_true, ne_eq, Classical.not_not]
  refine call_r (P := fun f' => ∀ k, k < nw → f' k = iI 0) (t_Ja_fill (by omega) (fun f' h => h)) (fun fw0 hw0 => ?_)
  have hw0 : WkC W H (VSp []) fw0 := fun x y hx hy => by
    rw [hw0 _ (by rw [hnw]; exact ix_lt hx hy), bI_f (p := VSp [] x y) (fun z => absurd z List.not_mem_nil)]
  refine lp_n (fun j z => z.1 = iI j ∧ WkC W H (VSp (syT W H C t sp ((l + 1 : Nat) : Int) T j).2.2.2.2.2.2) z.2.2.1 ∧ RC (syT W H C t sp ((l + 1 : Nat) : Int) T j) z.2.1 z.2.2.2.1 z.2.2.2.2.1 z.2.2.2.2.2.1 z.2.2.2.2.2.2.1 z.2.2.2.2.2.2.2) H ⟨0, by omega, rfl, hw0, hR⟩ ?_
  rintro j ⟨a, c1, fw1, fl1, fb1, fa1, fx1, fy1⟩ back hj ⟨h1, h2, h3⟩ hback
  have h1 : a = _ := h1; subst h1
  have h2 : WkC W H (VSp (syT W H C t sp ((l + 1 : Nat) : Int) T j).2.2.2.2.2.2) fw1 := h2
  have h3 : RC (syT W H C t sp ((l + 1 : Nat) : Int) T j) c1 fl1 fb1 fa1 fx1 fy1 := h3
  simp (disch := omega) only [wp_U_addLayer_L16, iI_lit, iI_neg, iI_add, iI_sub, iI_mul, iI_nI, iI_ofNat, iI_lt, iI_le, iI_eq, iI_cl, bI_0, bI_1, forall_eq, forall_eq_apply_imp_iff, not_true_eq_false, not_false_eq_true, ne_eq, Classical.not_not]
  refine ⟨fun q => ?_, fun q => ?_⟩
  · obtain rfl : j = H := by omega
    exact g _ _ _ _ _ _ _ h3
  have hTG := TG_sy (t := t) (sp := sp) hp (by omega) (TB_in (C := C) (t := t) (sp := sp) hT) j
  refine lp_n (fun i z => z.1 = iI i ∧ WkC W H (VSp (sxT W H C t sp ((l + 1 : Nat) : Int) j (syT W H C t sp ((l + 1 : Nat) : Int) T j) i).2.2.2.2.2.2) z.2.2.1 ∧ RC (sxT W H C t sp ((l + 1 : Nat) : Int) j (syT W H C t sp ((l + 1 : Nat) : Int) T j) i) z.2.1 z.2.2.2.1 z.2.2.2.2.1 z.2.2.2.2.2.1 z.2.2.2.2.2.2.1 z.2.2.2.2.2.2.2) W ⟨0, by omega, rfl, h2, h3⟩ ?_
  clear h2 h3
  rintro i ⟨a, c2, fw2, fl2, fb2, fa2, fx2, fy2⟩ back2 hi ⟨h1, h2, h3⟩ hback2
  have h1 : a = _ := h1; subst h1
  have hTG := TG_sx (sp := sp) hp (by omega) hTG j i
  have eN : ∀ i, sxT W H C t sp ((l + 1 : Nat) : Int) j (syT W H C t sp ((l + 1 : Nat) : Int) T j) (i + 1) = stT W H C t sp ((l + 1 : Nat) : Int) i j (sxT W H C t sp ((l + 1 : Nat) : Int) j (syT W H C t sp ((l + 1 : Nat) : Int) T j) i) := fun i => rfl
  have eW : sxT W H C t sp ((l + 1 : Nat) : Int) j (syT W H C t sp ((l + 1 : Nat) : Int) T j) W = syT W H C t sp ((l + 1 : Nat) : Int) T (j + 1) := rfl
  generalize hU : sxT W H C t sp ((l + 1 : Nat) : Int) j (syT W H C t sp ((l + 1 : Nat) : Int) T j) i = U at *
  have h2 : WkC W H (VSp U.2.2.2.2.2.2) fw2 := h2
  have h3 : RC U c2 fl2 fb2 fa2 fx2 fy2 := h3
  simp (disch := omega) only [wp_U_addLayer_L31, wp_U_addLayer_J103, iI_lit, iI_neg, iI_add, iI_sub, iI_mul, iI_nI, iI_ofNat, iI_lt, iI_le, iI_eq, iI_cl, bI_0, bI_1, forall_eq, forall_eq_apply_imp_iff, not_true_eq_false, not_false_eq_true, ne_eq, Classical.not_not]
  refine ⟨fun q => ?_, fun q => ?_⟩
  · obtain rfl : i = W := by omega
    rw [eW] at hU
    subst hU
    exact hback _ (by omega) ⟨by show iI _ = iI _; congr 1, h2, h3⟩
  refine call_i (fun Q q => t_U_begins hp hc (by omega) hnw h2 (by omega) (by omega) q) ?_
  simp only [iI_lit, iI_neg, iI_add, iI_sub, iI_mul, iI_nI, iI_ofNat, iI_lt, iI_le, iI_eq, iI_cl, bI_0, bI_1, forall_eq, forall_eq_apply_imp_iff, not_true_eq_false, not_false_eq_true, ne_eq, Classical.not_not]
  refine ⟨fun q2 => ?_, fun q2 => ?_⟩
  · have eT : stT W H C t sp ((l + 1 : Nat) : Int) i j U = U := cI_f q2
    refine hback2 _ (by omega) ⟨by show iI _ = iI _; congr 1, ?_⟩
    rw [eN, hU, eT]
    exact ⟨h2, h3⟩
  have hr := TG_room hp hTG q2
  have hv := st_V q2
  have hA := aA_b (T := TT W H C ((l + 1 : Nat) : Int) t) (Ins_box hp ((l + 1 : Nat) : Int)) hv (oN (Ins W H C ((l + 1 : Nat) : Int)) (TT W H C ((l + 1 : Nat) : Int) t) ((i : Int), (j : Int), 0))
  obtain ⟨r1, r2, r3, r4⟩ := h3
  have hm := OGs_mono hTG.2.1 (o := 0) (o' := U.1) (by omega) (by omega)
  rw [hS] at hr
  have hlS : (l + 1) * S ≤ 7 * S := Nat.mul_le_mul_right S (by omega)
  have hcn : U.1 < nl := by omega
  subst r1
  simp (disch := omega) only [iI_lit, iI_neg, iI_add, iI_sub, iI_mul, iI_nI, iI_ofNat, iI_lt, iI_le, iI_eq, iI_cl, bI_0, bI_1, forall_eq, forall_eq_apply_imp_iff, not_true_eq_false, not_false_eq_true, ne_eq, Classical.not_not]
  refine ⟨fun q3 => by omega, fun q3 => ?_⟩
  have eT : stT W H C t sp ((l + 1 : Nat) : Int) i j U = _ := cI_t q2
  rw [← hS] at hX hnl
  refine ⟨fun u => ∃ fw', WkC W H (rv (Ins W H C ((l + 1 : Nat) : Int)) (TT W H C ((l + 1 : Nat) : Int) t) ((i : Int), (j : Int), (0 : Int)) (VSp U.2.2.2.2.2.2) (oN (Ins W H C ((l + 1 : Nat) : Int)) (TT W H C ((l + 1 : Nat) : Int) t) ((i : Int), (j : Int), (0 : Int)))) fw' ∧ u = (upd fb2 (U.1 + 1) (iI ((U.2.1 U.1 + oN (Ins W H C ((l + 1 : Nat) : Int)) (TT W H C ((l + 1 : Nat) : Int) t) ((i : Int), (j : Int), (0 : Int)) : Nat))), upd fl2 U.1 (iI ((l + 1 : Nat) : Int)), upd fa2 U.1 (iI (aA (Ins W H C ((l + 1 : Nat) : Int)) (TT W H C ((l + 1 : Nat) : Int) t) ((i : Int), (j : Int), (0 : Int)) (oN (Ins W H C ((l + 1 : Nat) : Int)) (TT W H C ((l + 1 : Nat) : Int) t) ((i : Int), (j : Int), (0 : Int))))), wr fx2 (U.2.1 U.1) (oN (Ins W H C ((l + 1 : Nat) : Int)) (TT W H C ((l + 1 : Nat) : Int) t) ((i : Int), (j : Int), (0 : Int))) (fun k => (it (Ins W H C ((l + 1 : Nat) : Int)) (TT W H C ((l + 1 : Nat) : Int) t) ((i : Int), (j : Int), (0 : Int)) k).1), wr fy2 (U.2.1 U.1) (oN (Ins W H C ((l + 1 : Nat) : Int)) (TT W H C ((l + 1 : Nat) : Int) t) ((i : Int), (j : Int), (0 : Int))) (fun k => (it (Ins W H C ((l + 1 : Nat) : Int)) (TT W H C ((l + 1 : Nat) : Int) t) ((i : Int), (j : Int), (0 : Int)) k).2.1), fw'), t_U_walk (V := VSp U.2.2.2.2.2.2) hp hc (by omega) ht hv (r2 U.1 (by omega)) hcn (by omega) hna hnb (by rw [hX, hS]; omega) hY (by omega) hnw h2 (fun fw' hw' => ⟨fw', hw', rfl⟩), ?_⟩
  rintro u0 u1 u2 u3 u4 u5 ⟨fw', hw', e⟩
  simp only [Prod.mk.injEq] at e
  obtain ⟨rfl, rfl, rfl, rfl, rfl, rfl⟩ := e
  rw [Int.toNat_natCast, upd_t, jabs_i (by omega) (by omega)]
  simp (disch := omega) only [iI_lit, iI_neg, iI_add, iI_sub, iI_mul, iI_nI, iI_ofNat, iI_lt, iI_le, iI_eq, iI_cl, bI_0, bI_1, forall_eq, forall_eq_apply_imp_iff, not_true_eq_false, not_false_eq_true, ne_eq, Classical.not_not]
  refine ⟨iI_in (by omega) (by omega) (by omega), fun q4 => ?_, fun q4 => ?_⟩
  · rw [cI_f (by omega)] at eT
    refine hback2 _ (by omega) ⟨by show iI _ = iI _; congr 1, ?_⟩
    rw [eN, hU, eT]
    refine ⟨WkC_c hw' (fun a b => VSp_app _ _), rfl, ?_, ?_, ?_⟩
    · intro o ho; show upd fb2 _ _ o = _; rw [upd_f _ _ (by dsimp only at ho; omega)]; exact r2 o ho
    · intro o ho; show upd fl2 _ _ o = _ ∧ upd fa2 _ _ o = _; rw [upd_f _ _ (by dsimp only at ho; omega), upd_f _ _ (by dsimp only at ho; omega)]; exact r3 o ho
    · intro k hk; dsimp only at hk ⊢; rw [wr_low hk, wr_low hk]; exact r4 k hk
  · rw [cI_t (by omega)] at eT
    refine hback2 _ (by omega) ⟨by show iI _ = iI _; congr 1, ?_⟩
    rw [eN, hU, eT]
    refine ⟨WkC_c hw' (fun a b => VSp_app _ _), rfl, ?_, ?_, ?_⟩
    · intro o ho; exact upd_m r2 o ho
    · intro o ho; exact ⟨upd_n (fun o ho => (r3 o ho).1) o ho, upd_n (fun o ho => (r3 o ho).2) o ho⟩
    · intro k hk
      dsimp only at hk ⊢
      rw [upN_t] at hk
      exact ⟨wr_ext (fun k hk => (r4 k hk).1) k hk, wr_ext (fun k hk => (r4 k hk).2) k hk⟩
theorem t_O_forgetOutlines {a b c d e : Int32} {post : (Int32 × Int32 × Int32 × Int32 × Int32) → Prop} (g : post (iI 0, iI 0, iI 0, iI 0, iI 0)) : wp_O_forgetOutlines a b c d e post := by
  unfold wp_O_forgetOutlines wp_U_forget wp_G_forget wp_C_forget
  simp only [iI_lit, iI_neg, iI_add, iI_sub, iI_mul, iI_nI, iI_ofNat, iI_lt, iI_le, iI_eq, iI_cl, bI_0, bI_1, forall_eq, forall_eq_apply_imp_iff, not_true_eq_false, not_false_eq_true, ne_eq, Classical.not_not]
  refine ⟨fun u => u = (iI 0, iI 0), rfl, ?_⟩
  rintro u0 u1 e
  simp only [Prod.mk.injEq] at e
  obtain ⟨rfl, rfl⟩ := e
  refine ⟨fun u => u = (iI 0, iI 0), rfl, ?_⟩
  rintro u0 u1 e
  simp only [Prod.mk.injEq] at e
  obtain ⟨rfl, rfl⟩ := e
  exact ⟨fun u => u = iI 0, rfl, fun u e => by subst e; exact g⟩
theorem t_O_requireRange {n a b : Int} {post : Unit → Prop} (hn : (-2147483648 ≤ n ∧ n < 2147483648)) (ha : (-2147483648 ≤ a ∧ a < 2147483648)) (hb : (-2147483648 ≤ b ∧ b < 2147483648)) (h : a ≤ n ∧ n ≤ b) (g : post ()) : wp_O_requireRange (iI n) (iI a) (iI b) post := by
  unfold wp_O_requireRange
  simp (disch := omega) only [iI_lit, iI_neg, iI_add, iI_sub, iI_mul, iI_nI, iI_ofNat, iI_lt, iI_le, iI_eq, iI_cl, bI_0, bI_1, forall_eq, forall_eq_apply_imp_iff, not_true_eq_false, not_false_eq_true, ne_eq, Classical.not_not]
  grind
