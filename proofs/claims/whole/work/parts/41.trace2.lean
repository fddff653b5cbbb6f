theorem t_O_trace {W H : Nat} {C : Nat → Nat → Int} {nw nc nl nb na nX nY : Nat} {c tr a1 a2 a3 : Int32} {fw fc fl fb fa fx fy : Nat → Int32} {t sp : Int} {post : Int32 → (Int32 × Int32 × Int32 × Int32 × Int32 × (Nat → Int32) × (Nat → Int32) × (Nat → Int32) × (Nat → Int32) × (Nat → Int32) × (Nat → Int32)) → Prop}
    (hp : Pic W H C) (hc : PicC W H C nc fc) (ht : 0 ≤ t ∧ t ≤ 3) (hsp : 0 ≤ sp ∧ sp ≤ 256) (hnw : nw = W * H) (hnl : nl = 7 * (W * (H + 1) + H * (W + 1)) / 4) (hna : na = nl) (hnb : nb = nl + 1) (hX : nX = 7 * (W * (H + 1) + H * (W + 1))) (hY : nY = nX) (hb0 : fb 0 = iI 0)
    (g : ∀ fw' fl' fb' fa' fx' fy', RC (slT W H C t sp T00 7) (iI (slT W H C t sp T00 7).1) fl' fb' fa' fx' fy' → post (iI (slT W H C t sp T00 7).1) (iI (slT W H C t sp T00 7).1, iI 1, iI 0, iI 0, iI 0, fw', fl', fb', fa', fx', fy')) :
    wp_O_trace nw nc nl nb na nX nY c tr a1 a2 a3 fw (iI W) (iI H) fc fl fb fa fx fy (iI t) (iI sp) post := by
  unfold wp_O_trace
  simp only [iI_lit, iI_neg, iI_add, iI_sub, iI_mul, iI_nI, iI_ofNat, iI_lt, iI_le, iI_eq, iI_cl, bI_0, bI_1, forall_eq, forall_eq_apply_imp_iff, not_true_eq_false, not_false_eq_true, ne_eq, Classical.not_not]
  refine ⟨fun _ => True, t_O_requireRange (by omega) (by omega) (by omega) ht trivial, fun _ _ => ?_⟩
  refine ⟨fun _ => True, t_O_requireRange (by omega) (by omega) (by omega) hsp trivial, fun _ _ => ?_⟩
  refine ⟨fun u => u = (iI 0, iI 0, iI 0, iI 0, iI 0), t_O_forgetOutlines rfl, ?_⟩
  rintro u0 u1 u2 u3 u4 e
  simp only [Prod.mk.injEq] at e
  obtain ⟨rfl, rfl, rfl, rfl, rfl⟩ := e
  refine lp_n (fun k z => z.1 = iI ((k + 1 : Nat) : Int) ∧ z.2.2.1 = bI (0 < k) ∧ RC (slT W H C t sp T00 k) z.2.1 z.2.2.2.2.1 z.2.2.2.2.2.1 z.2.2.2.2.2.2.1 z.2.2.2.2.2.2.2.1 z.2.2.2.2.2.2.2.2) 7 ⟨0, by omega, rfl, (bI_f (by omega)).symm, rfl, ?_, ?_, ?_⟩ ?_
  · intro o ho; obtain rfl : o = 0 := Nat.le_zero.1 ho
    exact hb0
  · intro o ho; exact absurd ho (Nat.not_lt_zero o)
  · intro k hk; exact absurd hk (Nat.not_lt_zero k)
  rintro k ⟨a, c1, tr1, fw1, fl1, fb1, fa1, fx1, fy1⟩ back hk ⟨h1, h2, h3⟩ hback
  have h1 : a = _ := h1; have h2 : tr1 = _ := h2; subst h1; subst h2
  have h3 : RC (slT W H C t sp T00 k) c1 fl1 fb1 fa1 fx1 fy1 := h3
  simp (disch := omega) only [wp_O_trace_L20, iI_lit, iI_neg, iI_add, iI_sub, iI_mul, iI_nI, iI_ofNat, iI_lt, iI_le, iI_eq, iI_cl, bI_0, bI_1, forall_eq, forall_eq_apply_imp_iff, not_true_eq_false, not_false_eq_true, ne_eq, Classical.not_not]
  refine ⟨fun q => ?_, fun q => ?_⟩
  · obtain rfl : k = 7 := by omega
    have hc1 := h3.1; subst hc1
    rw [bI_t (by omega)]
    exact g _ _ _ _ _ _ h3
  · refine ⟨fun u => ∃ c' fw' fl' fb' fa' fx' fy', RC (slT W H C t sp T00 (k + 1)) c' fl' fb' fa' fx' fy' ∧ u = (c', iI 1, fw', fl', fb', fa', fx', fy'), t_U_addLayer hp hc (by omega) ht hsp hnw hnl hna hnb hX hY (TB_sl hp k (by omega)) h3 (fun c' fw' fl' fb' fa' fx' fy' h => ⟨c', fw', fl', fb', fa', fx', fy', h, rfl⟩), ?_⟩
    rintro v0 v1 v2 v3 v4 v5 v6 v7 ⟨c', fw', fl', fb', fa', fx', fy', hR, e⟩
    simp only [Prod.mk.injEq] at e
    obtain ⟨rfl, rfl, rfl, rfl, rfl, rfl, rfl, rfl⟩ := e
    refine hback _ (by omega) ⟨?_, (bI_t (by omega)).symm, hR⟩
    show iI _ = iI _; congr 1
theorem t_M_refuses {c : Int32} {w : Int} {post : Int32 → Int32 → Prop} (hw : (-2147483648 ≤ w ∧ w < 2147483648)) (g : post (bI (0 < w)) (iI w)) : wp_M_refuses c (iI w) post := by
  unfold wp_M_refuses
  simp (disch := omega) only [iI_lit, iI_neg, iI_add, iI_sub, iI_mul, iI_nI, iI_ofNat, iI_lt, iI_le, iI_eq, iI_cl, bI_0, bI_1, forall_eq, forall_eq_apply_imp_iff, not_true_eq_false, not_false_eq_true, ne_eq, Classical.not_not]
  refine ⟨fun q => ?_, fun q => ?_⟩
  · rwa [bI_f (by omega)] at g
  · rwa [bI_t (by omega)] at g
theorem call_2 {v : Int32} {w : Int32} {wp : (Int32 → Int32 → Prop) → Prop} {G : Int32 → Int32 → Prop} (h : ∀ Q : Int32 → Int32 → Prop, Q v w → wp Q) (g : G v w) : ∃ Q : Int32 → Int32 → Prop, wp Q ∧ ∀ r u : Int32, Q r u → G r u :=
  ⟨fun r u => r = v ∧ u = w, h _ ⟨rfl, rfl⟩, fun _ _ e => by obtain ⟨rfl, rfl⟩ := e; exact g⟩
theorem t_M_forget {a b c d : Int32} {post : (Int32 × Int32 × Int32 × Int32) → Prop} (g : post (iI 0, iI 0, iI 0, iI 0)) : wp_M_forget a b c d post := by
  unfold wp_M_forget; simp only [iI_lit, iI_neg, iI_add, iI_sub, iI_mul, iI_nI, iI_ofNat, iI_lt, iI_le, iI_eq, iI_cl, bI_0, bI_1, forall_eq, forall_eq_apply_imp_iff, not_true_eq_false, not_false_eq_true, ne_eq, Classical.not_not]; exact g
theorem t_M_trace {W H : Nat} {C : Nat → Nat → Int} {code tr c p hpo hcu : Int32} {fu ff fs fl fa fx fy fc : Nat → Int32} {t sp : Int} {post : Int32 → (Int32 × Int32 × Int32 × Int32 × Int32 × Int32 × (Nat → Int32) × (Nat → Int32) × (Nat → Int32) × (Nat → Int32) × (Nat → Int32) × (Nat → Int32) × (Nat → Int32)) → Prop}
    (hp : Pic W H C) (hc : PicM C fc) (ht : 0 ≤ t ∧ t ≤ 3) (hsp : 0 ≤ sp ∧ sp ≤ 256)
    (g : ∀ p' fu' ff' fs' fl' fa' fx' fy', RM (slT W H C t sp T00 7) (iI (slT W H C t sp T00 7).1) p' ff' fs' fl' fa' fx' fy' → post (iI (slT W H C t sp T00 7).1) (iI 0, iI 1, iI (slT W H C t sp T00 7).1, p', iI 0, iI 0, fu', ff', fs', fl', fa', fx', fy')) :
    wp_M_trace 256 256 900 900 900 900 3600 3600 code (iI W) (iI H) tr c p hpo hcu fc fu ff fs fl fa fx fy (iI t) (iI sp) post := by
  have hW := hp.1; have hH := hp.2.1
  unfold wp_M_trace wp_M_trace_J26
  simp only [iI_lit, iI_neg, iI_add, iI_sub, iI_mul, iI_nI, iI_ofNat, iI_lt, iI_le, iI_eq, iI_cl, bI_0, bI_1, forall_eq, forall_eq_apply_imp_iff, not_true_eq_false, not_false_eq_true, ne_eq, Classical.not_not]
  refine call_i (fun Q q => t_M_in (by omega) (by omega) (by omega) q) ?_
  simp only [iI_lit, iI_neg, iI_add, iI_sub, iI_mul, iI_nI, iI_ofNat, iI_lt, iI_le, iI_eq, iI_cl, bI_0, bI_1, forall_eq, forall_eq_apply_imp_iff, not_true_eq_false, not_false_eq_true, ne_eq, Classical.not_not]
  refine ⟨fun q => absurd ht q, fun _ => ?_⟩
  refine call_i (fun Q q => t_M_in (by omega) (by omega) (by omega) q) ?_
  simp only [iI_lit, iI_neg, iI_add, iI_sub, iI_mul, iI_nI, iI_ofNat, iI_lt, iI_le, iI_eq, iI_cl, bI_0, bI_1, forall_eq, forall_eq_apply_imp_iff, not_true_eq_false, not_false_eq_true, ne_eq, Classical.not_not]
  refine ⟨fun q => absurd hsp q, fun _ => ?_⟩
  refine call_2 (fun Q q => t_M_refuses (by omega) q) ?_
  rw [bI_f (by omega)]
  simp (disch := omega) only [iI_lit, iI_neg, iI_add, iI_sub, iI_mul, iI_nI, iI_ofNat, iI_lt, iI_le, iI_eq, iI_cl, bI_0, bI_1, forall_eq, forall_eq_apply_imp_iff, not_true_eq_false, not_false_eq_true, ne_eq, Classical.not_not]
  refine ⟨fun _ => ?_, fun q => q.elim⟩
  refine ⟨fun u => u = (iI 0, iI 0, iI 0, iI 0), t_M_forget rfl, ?_⟩
  rintro u0 u1 u2 u3 e
  simp only [Prod.mk.injEq] at e
  obtain ⟨rfl, rfl, rfl, rfl⟩ := e
  refine lp_n (fun k z => z.1 = iI ((k + 1 : Nat) : Int) ∧ RM (slT W H C t sp T00 k) z.2.1 z.2.2.1 z.2.2.2.2.1 z.2.2.2.2.2.1 z.2.2.2.2.2.2.1 z.2.2.2.2.2.2.2.1 z.2.2.2.2.2.2.2.2.1 z.2.2.2.2.2.2.2.2.2) 7 ⟨0, by omega, rfl, rfl, rfl, ?_, ?_⟩ ?_
  · intro o ho; exact absurd ho (Nat.not_lt_zero o)
  · intro k hk; exact absurd hk (Nat.not_lt_zero k)
  rintro l ⟨a, c1, p1, fu1, ff1, fs1, fl1, fa1, fx1, fy1⟩ back hk ⟨h1, h3⟩ hback
  have h1 : a = _ := h1; subst h1
  have h3 : RM (slT W H C t sp T00 l) c1 p1 ff1 fs1 fl1 fa1 fx1 fy1 := h3
  simp (disch := omega) only [wp_M_trace_L45, iI_lit, iI_neg, iI_add, iI_sub, iI_mul, iI_nI, iI_ofNat, iI_lt, iI_le, iI_eq, iI_cl, bI_0, bI_1, forall_eq, forall_eq_apply_imp_iff, not_true_eq_false, not_false_eq_true, ne_eq, Classical.not_not]
  refine ⟨fun q => ?_, fun q => ?_⟩
  · obtain rfl : l = 7 := by omega
    have hc1 := h3.1; subst hc1
    exact g _ _ _ _ _ _ _ _ h3
  have hT := TB_sl (t := t) (sp := sp) hp l (by omega)
  have eL : slT W H C t sp T00 (l + 1) = syT W H C t sp ((l + 1 : Nat) : Int) (slT W H C t sp T00 l) H := rfl
  generalize slT W H C t sp T00 l = T at *
  refine lp_n (fun j z => z.1 = iI j ∧ ∀ i, i < j → z.2 i = iI 0) 256 ⟨0, by omega, rfl, fun j hj => by omega⟩ ?_
  rintro i ⟨a, fu2⟩ backu hi ⟨h1, h2⟩ hbacku
  have h1 : a = _ := h1; subst h1
  have h2 : ∀ j, j < i → fu2 j = iI 0 := h2
  simp (disch := omega) only [wp_M_trace_L54, iI_lit, iI_neg, iI_add, iI_sub, iI_mul, iI_nI, iI_ofNat, iI_lt, iI_le, iI_eq, iI_cl, bI_0, bI_1, forall_eq, forall_eq_apply_imp_iff, not_true_eq_false, not_false_eq_true, ne_eq, Classical.not_not]
  refine ⟨fun q => ?_, fun q => ⟨iI_in (by omega) (by omega) (by omega), ?_⟩⟩
  rotate_left
  · refine hbacku _ (by omega) ⟨by show iI _ = iI _; congr 1, fun j hj => ?_⟩
    show upd fu2 _ _ j = _
    rw [nar_0z, Int.toNat_natCast]
    by_cases e : j = i
    · rw [e, upd_t]
    · rw [upd_f _ _ e]; exact h2 j (by omega)
  obtain rfl : i = 256 := by omega
  have hw0 : WkM (VSp []) fu2 := fun x y hx hy => by
    rw [h2 _ (by omega), bI_f (p := VSp [] x y) (fun z => absurd z List.not_mem_nil)]
  clear h2 hbacku
  refine lp_n (fun j z => z.1 = iI j ∧ WkM (VSp (syT W H C t sp ((l + 1 : Nat) : Int) T j).2.2.2.2.2.2) z.2.2.2.1 ∧ RM (syT W H C t sp ((l + 1 : Nat) : Int) T j) z.2.1 z.2.2.1 z.2.2.2.2.1 z.2.2.2.2.2.1 z.2.2.2.2.2.2.1 z.2.2.2.2.2.2.2.1 z.2.2.2.2.2.2.2.2.1 z.2.2.2.2.2.2.2.2.2) H ⟨0, by omega, rfl, hw0, h3⟩ ?_
  clear h3 hw0
  rintro j ⟨a, c1, p1, fu1, ff1, fs1, fl1, fa1, fx1, fy1⟩ back3 hj ⟨h1, h2, h3⟩ hback3
  have h1 : a = _ := h1; subst h1
  simp (disch := omega) only [wp_M_trace_L79, iI_lit, iI_neg, iI_add, iI_sub, iI_mul, iI_nI, iI_ofNat, iI_lt, iI_le, iI_eq, iI_cl, bI_0, bI_1, forall_eq, forall_eq_apply_imp_iff, not_true_eq_false, not_false_eq_true, ne_eq, Classical.not_not]
  refine ⟨fun q => ?_, fun q => ?_⟩
  · obtain rfl : j = H := by omega
    refine hback _ (by omega) ⟨?_, ?_⟩
    · show iI _ = iI _; congr 1
    · rw [eL]; exact h3
  have hTG := TG_sy (t := t) (sp := sp) hp (by omega) (TB_in (C := C) (t := t) (sp := sp) hT) j
  refine lp_n (fun i z => z.1 = iI i ∧ WkM (VSp (sxT W H C t sp ((l + 1 : Nat) : Int) j (syT W H C t sp ((l + 1 : Nat) : Int) T j) i).2.2.2.2.2.2) z.2.2.2.1 ∧ RM (sxT W H C t sp ((l + 1 : Nat) : Int) j (syT W H C t sp ((l + 1 : Nat) : Int) T j) i) z.2.1 z.2.2.1 z.2.2.2.2.1 z.2.2.2.2.2.1 z.2.2.2.2.2.2.1 z.2.2.2.2.2.2.2.1 z.2.2.2.2.2.2.2.2.1 z.2.2.2.2.2.2.2.2.2) W ⟨0, by omega, rfl, h2, h3⟩ ?_
  clear h2 h3
  rintro i ⟨a, c2, p2, fu2, ff2, fs2, fl2, fa2, fx2, fy2⟩ back2 hi ⟨h1, h2, h3⟩ hback2
  have h1 : a = _ := h1; subst h1
  have hTG := TG_sx (sp := sp) hp (by omega) hTG j i
  have eN : ∀ i, sxT W H C t sp ((l + 1 : Nat) : Int) j (syT W H C t sp ((l + 1 : Nat) : Int) T j) (i + 1) = stT W H C t sp ((l + 1 : Nat) : Int) i j (sxT W H C t sp ((l + 1 : Nat) : Int) j (syT W H C t sp ((l + 1 : Nat) : Int) T j) i) := fun i => rfl
  have eW : sxT W H C t sp ((l + 1 : Nat) : Int) j (syT W H C t sp ((l + 1 : Nat) : Int) T j) W = syT W H C t sp ((l + 1 : Nat) : Int) T (j + 1) := rfl
  generalize hU : sxT W H C t sp ((l + 1 : Nat) : Int) j (syT W H C t sp ((l + 1 : Nat) : Int) T j) i = U at *
  have h2 : WkM (VSp U.2.2.2.2.2.2) fu2 := h2
  have h3 : RM U c2 p2 ff2 fs2 fl2 fa2 fx2 fy2 := h3
  simp (disch := omega) only [wp_M_trace_L91, wp_M_trace_J153, iI_lit, iI_neg, iI_add, iI_sub, iI_mul, iI_nI, iI_ofNat, iI_lt, iI_le, iI_eq, iI_cl, bI_0, bI_1, forall_eq, forall_eq_apply_imp_iff, not_true_eq_false, not_false_eq_true, ne_eq, Classical.not_not]
  refine ⟨fun q => ?_, fun q => ?_⟩
  · obtain rfl : i = W := by omega
    rw [eW] at hU
    subst hU
    exact hback3 _ (by omega) ⟨by show iI _ = iI _; congr 1, h2, h3⟩
  have skip : ¬ starts W H C ((l + 1 : Nat) : Int) i j U.2.2.2.2.2.2 → back2 (iI ((i : Int) + 1), c2, p2, fu2, ff2, fs2, fl2, fa2, fx2, fy2) := by
    intro q2
    have eT : stT W H C t sp ((l + 1 : Nat) : Int) i j U = U := cI_f q2
    refine hback2 _ (by omega) ⟨by show iI _ = iI _; congr 1, ?_⟩
    rw [eN, hU, eT]
    exact ⟨h2, h3⟩
  refine call_i (fun Q q => t_M_isInside hp hc (by omega) (by omega) (by omega) q) ?_
  simp only [iI_lit, iI_neg, iI_add, iI_sub, iI_mul, iI_nI, iI_ofNat, iI_lt, iI_le, iI_eq, iI_cl, bI_0, bI_1, forall_eq, forall_eq_apply_imp_iff, not_true_eq_false, not_false_eq_true, ne_eq, Classical.not_not]
  refine ⟨fun q2 => skip (fun z => q2 z.1), fun qa => ?_⟩
  refine call_i (fun Q q => t_M_isInside hp hc (by omega) (by omega) (by omega) q) ?_
  simp (disch := omega) only [iI_lit, iI_neg, iI_add, iI_sub, iI_mul, iI_nI, iI_ofNat, iI_lt, iI_le, iI_eq, iI_cl, bI_0, bI_1, forall_eq, forall_eq_apply_imp_iff, not_true_eq_false, not_false_eq_true, ne_eq, Classical.not_not]
  rw [show (16 * (j : Int) + i).toNat = 16 * j + i by omega, h2 i j (by omega) (by omega)]
  simp only [iI_lit, iI_neg, iI_add, iI_sub, iI_mul, iI_nI, iI_ofNat, iI_lt, iI_le, iI_eq, iI_cl, bI_0, bI_1, forall_eq, forall_eq_apply_imp_iff, not_true_eq_false, not_false_eq_true, ne_eq, Classical.not_not]
  refine ⟨fun q2 => skip (fun z => z.2.1 q2), fun qb => ⟨iI_in (by omega) (by omega) (by omega), fun q2 => skip (fun z => z.2.2 q2), fun qc => ?_⟩⟩
  have q2 : starts W H C ((l + 1 : Nat) : Int) i j U.2.2.2.2.2.2 := ⟨qa, qb, qc⟩
  have hr := TG_room hp hTG q2
  have hv := st_V q2
  obtain ⟨r1, r1', r3, r4⟩ := h3
  have hm := OGs_mono hTG.2.1 (o := 0) (o' := U.1) (by omega) (by omega)
  subst r1; subst r1'
  have eT : stT W H C t sp ((l + 1 : Nat) : Int) i j U = _ := cI_t q2
  refine ⟨fun u => ∃ fu', WkM (rv (Ins W H C ((l + 1 : Nat) : Int)) (TT W H C ((l + 1 : Nat) : Int) t) ((i : Int), (j : Int), (0 : Int)) (VSp U.2.2.2.2.2.2) (oN (Ins W H C ((l + 1 : Nat) : Int)) (TT W H C ((l + 1 : Nat) : Int) t) ((i : Int), (j : Int), (0 : Int)))) fu' ∧ ((sp < (aA (Ins W H C ((l + 1 : Nat) : Int)) (TT W H C ((l + 1 : Nat) : Int) t) ((i : Int), (j : Int), (0 : Int)) (oN (Ins W H C ((l + 1 : Nat) : Int)) (TT W H C ((l + 1 : Nat) : Int) t) ((i : Int), (j : Int), (0 : Int)))).natAbs ∧ u = (iI ((U.1 + 1 : Nat)), iI ((U.2.1 U.1 + oN (Ins W H C ((l + 1 : Nat) : Int)) (TT W H C ((l + 1 : Nat) : Int) t) ((i : Int), (j : Int), (0 : Int)) : Nat)), upd ff2 U.1 (iI (U.2.1 U.1)), upd fs2 U.1 (iI ((oN (Ins W H C ((l + 1 : Nat) : Int)) (TT W H C ((l + 1 : Nat) : Int) t) ((i : Int), (j : Int), (0 : Int)) : Nat))), upd fl2 U.1 (iI ((l + 1 : Nat) : Int)), upd fa2 U.1 (iI (aA (Ins W H C ((l + 1 : Nat) : Int)) (TT W H C ((l + 1 : Nat) : Int) t) ((i : Int), (j : Int), (0 : Int)) (oN (Ins W H C ((l + 1 : Nat) : Int)) (TT W H C ((l + 1 : Nat) : Int) t) ((i : Int), (j : Int), (0 : Int))))), wr fx2 (U.2.1 U.1) (oN (Ins W H C ((l + 1 : Nat) : Int)) (TT W H C ((l + 1 : Nat) : Int) t) ((i : Int), (j : Int), (0 : Int))) (fun k => (it (Ins W H C ((l + 1 : Nat) : Int)) (TT W H C ((l + 1 : Nat) : Int) t) ((i : Int), (j : Int), (0 : Int)) k).1), wr fy2 (U.2.1 U.1) (oN (Ins W H C ((l + 1 : Nat) : Int)) (TT W H C ((l + 1 : Nat) : Int) t) ((i : Int), (j : Int), (0 : Int))) (fun k => (it (Ins W H C ((l + 1 : Nat) : Int)) (TT W H C ((l + 1 : Nat) : Int) t) ((i : Int), (j : Int), (0 : Int)) k).2.1), fu')) ∨ (¬ sp < (aA (Ins W H C ((l + 1 : Nat) : Int)) (TT W H C ((l + 1 : Nat) : Int) t) ((i : Int), (j : Int), (0 : Int)) (oN (Ins W H C ((l + 1 : Nat) : Int)) (TT W H C ((l + 1 : Nat) : Int) t) ((i : Int), (j : Int), (0 : Int)))).natAbs ∧ u = (iI U.1, iI (U.2.1 U.1), ff2, fs2, fl2, fa2, wr fx2 (U.2.1 U.1) (oN (Ins W H C ((l + 1 : Nat) : Int)) (TT W H C ((l + 1 : Nat) : Int) t) ((i : Int), (j : Int), (0 : Int))) (fun k => (it (Ins W H C ((l + 1 : Nat) : Int)) (TT W H C ((l + 1 : Nat) : Int) t) ((i : Int), (j : Int), (0 : Int)) k).1), wr fy2 (U.2.1 U.1) (oN (Ins W H C ((l + 1 : Nat) : Int)) (TT W H C ((l + 1 : Nat) : Int) t) ((i : Int), (j : Int), (0 : Int))) (fun k => (it (Ins W H C ((l + 1 : Nat) : Int)) (TT W H C ((l + 1 : Nat) : Int) t) ((i : Int), (j : Int), (0 : Int)) k).2.1), fu'))), t_M_walk (V := VSp U.2.2.2.2.2.2) hp hc (by omega) ht hsp hv (by omega) (by omega) h2 (fun fu' hu' => ⟨fun z => ⟨fu', hu', Or.inl ⟨z, rfl⟩⟩, fun z => ⟨fu', hu', Or.inr ⟨z, rfl⟩⟩⟩), ?_⟩
  rintro u0 u1 u2 u3 u4 u5 u6 u7 u8 ⟨fu', hu', ⟨q4, e⟩ | ⟨q4, e⟩⟩
  · simp only [Prod.mk.injEq] at e
    obtain ⟨rfl, rfl, rfl, rfl, rfl, rfl, rfl, rfl, rfl⟩ := e
    rw [cI_t q4] at eT
    refine hback2 _ (by omega) ⟨by show iI _ = iI _; congr 1, ?_⟩
    rw [eN, hU, eT]
    refine ⟨WkM_c hu' (fun a b => VSp_app _ _), rfl, ?_, ?_, ?_⟩
    · dsimp only; rw [upN_t]
    · intro o ho
      dsimp only at ho ⊢
      have e1 : upd ff2 U.1 (iI (U.2.1 U.1)) o = iI ((upN U.2.1 (U.1 + 1) (U.2.1 U.1 + oN (Ins W H C ((l + 1 : Nat) : Int)) (TT W H C ((l + 1 : Nat) : Int) t) ((i : Int), (j : Int), (0 : Int))) o : Nat)) := by
        rw [upN_f _ _ (by omega)]
        by_cases e : o = U.1
        · rw [e, upd_t]
        · rw [upd_f _ _ e]; exact (r3 o (by omega)).1
      have e2 : upd fs2 U.1 (iI ((oN (Ins W H C ((l + 1 : Nat) : Int)) (TT W H C ((l + 1 : Nat) : Int) t) ((i : Int), (j : Int), (0 : Int)) : Nat))) o = iI ((upN U.2.1 (U.1 + 1) (U.2.1 U.1 + oN (Ins W H C ((l + 1 : Nat) : Int)) (TT W H C ((l + 1 : Nat) : Int) t) ((i : Int), (j : Int), (0 : Int))) (o + 1) - upN U.2.1 (U.1 + 1) (U.2.1 U.1 + oN (Ins W H C ((l + 1 : Nat) : Int)) (TT W H C ((l + 1 : Nat) : Int) t) ((i : Int), (j : Int), (0 : Int))) o : Nat)) := by
        rw [upN_f _ _ (show o ≠ U.1 + 1 by omega)]
        by_cases e : o = U.1
        · rw [e, upd_t, upN_t, Nat.add_sub_cancel_left]
        · rw [upd_f _ _ e, upN_f _ _ (by omega)]; exact (r3 o (by omega)).2.1
      exact ⟨e1, e2, upd_n (fun o ho => (r3 o ho).2.2.1) o ho, upd_n (fun o ho => (r3 o ho).2.2.2) o ho⟩
    · intro k hk
      dsimp only at hk ⊢
      rw [upN_t] at hk
      exact ⟨wr_ext (fun k hk => (r4 k hk).1) k hk, wr_ext (fun k hk => (r4 k hk).2) k hk⟩
  · simp only [Prod.mk.injEq] at e
    obtain ⟨rfl, rfl, rfl, rfl, rfl, rfl, rfl, rfl, rfl⟩ := e
    rw [cI_f q4] at eT
    refine hback2 _ (by omega) ⟨by show iI _ = iI _; congr 1, ?_⟩
    rw [eN, hU, eT]
    refine ⟨WkM_c hu' (fun a b => VSp_app _ _), rfl, rfl, r3, ?_⟩
    intro k hk; dsimp only at hk ⊢; rw [wr_low hk, wr_low hk]; exact r4 k hk
