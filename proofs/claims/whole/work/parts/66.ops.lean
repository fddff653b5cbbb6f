-- calls that change something
def okP (m c : Int) : Prop := 1 ≤ m ∧ 0 ≤ c ∧ c ≤ 7
noncomputable def wPut (W H : Nat) (x y m c : Int) : Int := ow2 (smp W H x y) (okP m c)
noncomputable def nPut (W : Nat) (C : Nat → Nat → Int) (x y m c : Int) : Int := pN C x.toNat y.toNat c (min m ((W : Int) - x)).toNat
noncomputable def cPut (W : Nat) (C : Nat → Nat → Int) (x y m c : Int) : Nat → Nat → Int := pC C x.toNat y.toNat (min m ((W : Int) - x)).toNat c
def zPut (W H : Nat) (C : Nat → Nat → Int) (x y m c : Int) : Prop := wPut W H x y m c = 0 ∧ 0 < nPut W C x y m c
theorem X_put {W H n : Nat} {C : Nat → Nat → Int} {fc : Nat → Int32} (hp : Pic W H C) (hc : PicC W H C n fc) {x y m c : Int} (hx : (-2147483648 ≤ x ∧ x < 2147483648)) (hy : (-2147483648 ≤ y ∧ y < 2147483648)) (hm : (-2147483648 ≤ m ∧ m < 2147483648)) (hcc : (-2147483648 ≤ c ∧ c < 2147483648)) {xc xt a1 a2 a3 : Int32} {fO : Nat → Int64} {post : Int32 → ((Nat → Int32) × Int32 × Int32 × Int32 × Int32 × Int32 × (Nat → Int64)) → Prop}
    (g : ∀ fc', (wPut W H x y m c = 0 → PicC W H (cPut W C x y m c) n fc') → (wPut W H x y m c ≠ 0 → fc' = fc) → post (iI (wPut W H x y m c)) (fc', cI (zPut W H C x y m c) (iI 0) xc, cI (zPut W H C x y m c) (iI 0) xt, cI (zPut W H C x y m c) (iI 0) a1, cI (zPut W H C x y m c) (iI 0) a2, cI (zPut W H C x y m c) (iI 0) a3, oU (wPut W H x y m c) (nPut W C x y m c) fO)) :
    ww_L_put n 1 (iI W) (iI H) fc xc xt a1 a2 a3 fO (iI x) (iI y) (iI m) (iI c) post := by
  have hW := hp.1; have hH := hp.2.1
  have bad : wPut W H x y m c ≠ 0 → post (iI (wPut W H x y m c)) (fc, xc, xt, a1, a2, a3, fO) := fun hw => by
    have g := g fc (fun h => absurd h hw) (fun _ => rfl)
    have hz : ¬ zPut W H C x y m c := fun h => hw h.1
    rwa [cI_f hz, cI_f hz, cI_f hz, cI_f hz, cI_f hz, oU_n hw] at g
  unfold ww_L_put
  by_cases hs : smp W H x y
  · by_cases hok : okP m c
    · have hw : wPut W H x y m c = 0 := w2_0 hs hok
      left
      unfold wp_L_put
      refine ⟨fun r u => r = iI (nPut W C x y m c) ∧ PicC W H (cPut W C x y m c) n u.1 ∧ u.2 = (cI (zPut W H C x y m c) (iI 0) xc, cI (zPut W H C x y m c) (iI 0) xt, cI (zPut W H C x y m c) (iI 0) a1, cI (zPut W H C x y m c) (iI 0) a2, cI (zPut W H C x y m c) (iI 0) a3), ?_, ?_⟩
      · unfold wp_O_put
        rw [iI_z, kl_1, kl_7, kl_max]
        refine call_0 (fun Q q => rqS hW hH hx hy hs q) (call_0 (fun Q q => t_O_requireRange hm (by omega) (by omega) ⟨hok.1, by omega⟩ q) (call_0 (fun Q q => t_O_requireRange hcc (by omega) (by omega) hok.2 q) ?_))
        obtain ⟨s1, s2, s3, s4⟩ := hs
        obtain ⟨i, rfl⟩ : ∃ i : Nat, x = (i : Int) := ⟨x.toNat, by omega⟩
        obtain ⟨j, rfl⟩ : ∃ j : Nat, y = (j : Int) := ⟨y.toNat, by omega⟩
        refine ⟨fun r u => r = iI (nPut W C i j m c) ∧ PicC W H (cPut W C i j m c) n u, t_P_paint hp hc (by omega) (by omega) ⟨hok.1, by omega⟩ hok.2 (fun f' hf' => ⟨rfl, hf'⟩), ?_⟩
        rintro r u ⟨hr, hu⟩
        have hr : r = _ := hr; subst hr
        have hb := pN_b C i j c (min m ((W : Int) - i)).toNat
        have hb : 0 ≤ nPut W C i j m c ∧ nPut W C i j m c ≤ 16 := ⟨hb.1, Int.le_trans hb.2 (by omega)⟩
        rw [iI_le (by omega) (by omega) (by omega) (by omega)]
        refine ⟨fun e => ⟨rfl, hu, ?_⟩, fun e => ?_⟩
        · have hz : ¬ zPut W H C i j m c := fun h => by have := h.2; omega
          rw [cI_f hz, cI_f hz, cI_f hz, cI_f hz, cI_f hz]
        · have hz : zPut W H C i j m c := ⟨hw, by omega⟩
          refine ⟨fun u => u = (iI 0, iI 0, iI 0, iI 0, iI 0), t_O_forgetOutlines rfl, ?_⟩
          rintro u0 u1 u2 u3 u4 hu'
          simp only [Prod.mk.injEq] at hu'
          obtain ⟨rfl, rfl, rfl, rfl, rfl⟩ := hu'
          refine ⟨rfl, hu, ?_⟩
          rw [cI_t hz, cI_t hz, cI_t hz, cI_t hz, cI_t hz]
      · rintro r u0 u1 u2 u3 u4 u5 ⟨hr, hu, hu'⟩
        have hr : r = _ := hr; subst hr
        simp only [Prod.mk.injEq] at hu'
        obtain ⟨rfl, rfl, rfl, rfl, rfl⟩ := hu'
        have g := g u0 (fun _ => hu) (fun h => absurd hw h)
        rw [hw] at g
        exact fin0 (by rw [iI_z]; exact g)
    · have hw : wPut W H x y m c = 2 := w2_2 hs hok
      have bad := bad (by omega)
      rw [hw] at bad
      refine Or.inr (Or.inr ⟨?_, by rw [kl_2]; exact bad⟩)
      unfold tp_O_put
      rw [iI_z, kl_1, kl_7, kl_max]
      refine Or.inr (call_0 (fun Q q => rqS hW hH hx hy hs q) ?_)
      by_cases h1 : 1 ≤ m
      · exact Or.inr (call_0 (fun Q q => t_O_requireRange hm (by omega) (by omega) ⟨h1, by omega⟩ q) (Or.inl (tpR hcc (by omega) (by omega) (fun w => hok ⟨h1, w⟩))))
      · exact Or.inl (tpR hm (by omega) (by omega) (fun w => h1 w.1))
  · have hw : wPut W H x y m c = 1 := w2_1 hs
    have bad := bad (by omega)
    rw [hw] at bad
    exact Or.inr (Or.inl ⟨Or.inl (tpS hW hH hx hy hs), by rw [kl_1]; exact bad⟩)
theorem M_put {W H : Nat} {C : Nat → Nat → Int} {fc : Nat → Int32} (hp : Pic W H C) (hc : PicM C fc) {x y m c : Int} (hx : (-2147483648 ≤ x ∧ x < 2147483648)) (hy : (-2147483648 ≤ y ∧ y < 2147483648)) (hm : (-2147483648 ≤ m ∧ m < 2147483648)) (hcc : (-2147483648 ≤ c ∧ c < 2147483648)) {code a1 a2 a3 a4 : Int32} {post : Int32 → (Int32 × Int32 × Int32 × Int32 × Int32 × (Nat → Int32)) → Prop}
    (g : ∀ fc', (wPut W H x y m c = 0 → PicM (cPut W C x y m c) fc') → (wPut W H x y m c ≠ 0 → fc' = fc) → post (iI (cI (wPut W H x y m c = 0) (nPut W C x y m c) 0)) (iI (wPut W H x y m c), cI (zPut W H C x y m c) (iI 0) a1, cI (zPut W H C x y m c) (iI 0) a2, cI (zPut W H C x y m c) (iI 0) a3, cI (zPut W H C x y m c) (iI 0) a4, fc')) :
    wp_M_put 256 code (iI W) (iI H) a1 a2 a3 a4 fc (iI x) (iI y) (iI m) (iI c) post := by
  have hW := hp.1; have hH := hp.2.1; have hC := hp.2.2.1
  have J : ∀ v : Int, 0 ≤ v ∧ v ≤ 3 → wPut W H x y m c = v → wp_M_put_J35 256 (iI W) (iI H) code a1 a2 a3 a4 fc (iI x) (iI y) (iI m) (iI c) (iI v) post := by
    intro v hv hw
    unfold wp_M_put_J35
    refine rfs hv (fun h0 => ?_) (fun h1 => ?_)
    · rw [h0] at hw
      obtain ⟨hs, hok⟩ := w2_i hw
      obtain ⟨s1, s2, s3, s4⟩ := hs
      obtain ⟨i, rfl⟩ : ∃ i : Nat, x = (i : Int) := ⟨x.toNat, by omega⟩
      obtain ⟨j, rfl⟩ : ∃ j : Nat, y = (j : Int) := ⟨y.toNat, by omega⟩
      obtain ⟨o1, o2⟩ := hok
      obtain ⟨M, hM⟩ : ∃ M : Nat, M = (min m ((W : Int) - i)).toNat := ⟨_, rfl⟩
      have en : nPut W C i j m c = pN C i j c M := by unfold nPut; rw [← hM]; rfl
      have ec : cPut W C i j m c = pC C i j M c := by unfold cPut; rw [← hM]; rfl
      rw [iI_z]
      refine lp_n (fun k z => z.1 = iI (pN C i j c k) ∧ z.2.1 = iI ((i + k : Nat) : Int) ∧ PicM (pC C i j k c) z.2.2) M ⟨0, by omega, rfl, rfl, hc.eq (fun a b => by unfold pC; rw [cI_f (by omega)])⟩ ?_
      rintro k ⟨a, b, f'⟩ back hk ⟨h1, h2, h3⟩ hback
      have h1 : a = _ := h1; have h2 : b = _ := h2; subst h1; subst h2
      have h3 : PicM (pC C i j k c) f' := h3
      have hb := pN_b C i j c k
      have done : k = M → wp_M_put_J113 256 (iI W) (iI H) (iI 0) a1 a2 a3 a4 f' (iI (pN C i j c k)) post := by
        intro e
        have g := g f' (fun _ => by rw [ec, ← e]; exact h3) (fun h => absurd hw h)
        rw [hw, cI_t rfl, en, ← e] at g
        unfold wp_M_put_J113
        rw [iI_z, iI_le (by omega) (by omega) (by omega) (by omega)]
        refine ⟨fun q => ?_, fun q => ?_⟩
        · have hz : ¬ zPut W H C i j m c := fun h => by have := h.2; rw [en, ← e] at this; omega
          rwa [cI_f hz, cI_f hz, cI_f hz, cI_f hz] at g
        · have hz : zPut W H C i j m c := ⟨hw, by rw [en, ← e]; omega⟩
          rw [cI_t hz, cI_t hz, cI_t hz, cI_t hz] at g
          refine ⟨fun u => u = (iI 0, iI 0, iI 0, iI 0), t_M_forget rfl, ?_⟩
          rintro u0 u1 u2 u3 hu
          simp only [Prod.mk.injEq] at hu
          obtain ⟨rfl, rfl, rfl, rfl⟩ := hu
          exact g
      simp (disch := omega) only [wp_M_put_L49, wp_M_put_J90, iI_lit, iI_neg, iI_add, iI_sub, iI_mul, iI_nI, iI_ofNat, iI_lt, iI_le, iI_eq, iI_cl, bI_0, bI_1, forall_eq, forall_eq_apply_imp_iff, not_true_eq_false, not_false_eq_true, ne_eq, Classical.not_not]
      refine ⟨fun q => done (by omega), fun q => ⟨fun q2 => done (by omega), fun q2 => ?_⟩⟩
      have ei : (16 * (j : Int) + ((i + k : Nat) : Int)).toNat = 16 * j + (i + k) := by omega
      have ef := h3 (i + k) j (by omega) (by omega)
      rw [pC_at] at ef
      have hcb := hC (i + k) j
      have hv : vp_in (iI (16 * (j : Int) + ((i + k : Nat) : Int))) 256 := iI_in (by omega) (by omega) (by omega)
      rw [ei, ef]
      have e1 := pN_s C i j c k
      simp (disch := omega) only [iI_lit, iI_neg, iI_add, iI_sub, iI_mul, iI_nI, iI_ofNat, iI_lt, iI_le, iI_eq, iI_cl, bI_0, bI_1, forall_eq, forall_eq_apply_imp_iff, not_true_eq_false, not_false_eq_true, ne_eq, Classical.not_not]
      have h4 : PicM (pC C i j (k + 1) c) (upd f' (16 * j + (i + k)) (iI c)) := (PicM_upd h3 (show i + k < 16 by omega)).eq (fun a b => pC_upd a b)
      refine ⟨hv, fun q3 => ⟨hv, hback _ (by omega) ⟨?_, iI_e (by omega), h4⟩⟩, fun q3 => ⟨hv, hback _ (by omega) ⟨?_, iI_e (by omega), h4⟩⟩⟩
      · show iI _ = iI _; rw [e1, cI_t q3]
      · show iI _ = iI _; rw [e1, cI_f q3]
    · have g := g fc (fun h => by omega) (fun _ => rfl)
      have hz : ¬ zPut W H C x y m c := fun h => by have := h.1; omega
      rw [hw, cI_f (by omega), cI_f hz, cI_f hz, cI_f hz, cI_f hz] at g
      rw [iI_z]; exact g
  unfold wp_M_put wp_M_put_J30
  simp (disch := omega) only [iI_lit, iI_neg, iI_add, iI_sub, iI_mul, iI_nI, iI_ofNat, iI_lt, iI_le, iI_eq, iI_cl, bI_0, bI_1, forall_eq, forall_eq_apply_imp_iff, not_true_eq_false, not_false_eq_true, ne_eq, Classical.not_not]
  refine call_i (fun Q q => t_M_isSample hW hH hx hy q) ?_
  simp only [iI_lit, iI_neg, iI_add, iI_sub, iI_mul, iI_nI, iI_ofNat, iI_lt, iI_le, iI_eq, iI_cl, bI_0, bI_1, forall_eq, forall_eq_apply_imp_iff, not_true_eq_false, not_false_eq_true, ne_eq, Classical.not_not]
  refine ⟨fun hs => ⟨fun h1 => J 2 (by omega) (w2_2 hs (fun w => by have := w.1; omega)), fun h1 => ?_⟩, fun hs => J 1 (by omega) (w2_1 hs)⟩
  refine call_i (fun Q q => t_M_in hcc (by omega) (by omega) q) ?_
  simp only [iI_lit, iI_neg, iI_add, iI_sub, iI_mul, iI_nI, iI_ofNat, iI_lt, iI_le, iI_eq, iI_cl, bI_0, bI_1, forall_eq, forall_eq_apply_imp_iff, not_true_eq_false, not_false_eq_true, ne_eq, Classical.not_not]
  exact ⟨fun h2 => J 0 (by omega) (w2_0 hs ⟨by omega, h2⟩), fun h2 => J 2 (by omega) (w2_2 hs (fun w => h2 w.2))⟩
def okT (t sp : Int) : Prop := (0 ≤ t ∧ t ≤ 3) ∧ 0 ≤ sp ∧ sp ≤ 256
theorem X_trace {W H nw nc nl nb na nX nY : Nat} {C : Nat → Nat → Int} {c tr a1 a2 a3 : Int32} {fw fc fl fb fa fx fy : Nat → Int32} {t sp : Int} (hp : Pic W H C) (hc : PicC W H C nc fc) (hnw : nw = W * H) (hK : KU W H nb nl na nX nY) (hb0 : fb 0 = iI 0) (ht : (-2147483648 ≤ t ∧ t < 2147483648)) (hsp : (-2147483648 ≤ sp ∧ sp < 2147483648)) {fO : Nat → Int64} {post : Int32 → (Int32 × Int32 × Int32 × Int32 × Int32 × (Nat → Int32) × (Nat → Int32) × (Nat → Int32) × (Nat → Int32) × (Nat → Int32) × (Nat → Int32) × (Nat → Int64)) → Prop}
    (g0 : okT t sp → ∀ fw' fl' fb' fa' fx' fy', RC (slT W H C t sp T00 7) (iI (slT W H C t sp T00 7).1) fl' fb' fa' fx' fy' → post (iI 0) (iI (slT W H C t sp T00 7).1, iI 1, iI 0, iI 0, iI 0, fw', fl', fb', fa', fx', fy', oU 0 (slT W H C t sp T00 7).1 fO))
    (g1 : ¬ okT t sp → post (iI 1) (c, tr, a1, a2, a3, fw, fl, fb, fa, fx, fy, fO)) :
    ww_L_trace nw nc nl nb na nX nY 1 c tr a1 a2 a3 fw (iI W) (iI H) fc fl fb fa fx fy fO (iI t) (iI sp) post := by
  obtain ⟨z1, z2, z3, z4, z5, z6⟩ := hK
  unfold ww_L_trace
  by_cases hok : okT t sp
  · left
    unfold wp_L_trace
    refine ⟨fun r u => r = iI (slT W H C t sp T00 7).1 ∧ RC (slT W H C t sp T00 7) (iI (slT W H C t sp T00 7).1) u.2.2.2.2.2.2.1 u.2.2.2.2.2.2.2.1 u.2.2.2.2.2.2.2.2.1 u.2.2.2.2.2.2.2.2.2.1 u.2.2.2.2.2.2.2.2.2.2 ∧ u.1 = iI (slT W H C t sp T00 7).1 ∧ u.2.1 = iI 1 ∧ u.2.2.1 = iI 0 ∧ u.2.2.2.1 = iI 0 ∧ u.2.2.2.2.1 = iI 0, t_O_trace hp hc hok.1 hok.2 hnw z1 z2 z3 z4 z5 hb0 (fun fw' fl' fb' fa' fx' fy' h => ⟨rfl, h, rfl, rfl, rfl, rfl, rfl⟩), ?_⟩
    rintro r u0 u1 u2 u3 u4 u5 u6 u7 u8 u9 u10 ⟨hr, h1, h2, h3, h4, h5, h6⟩
    have hr : r = _ := hr; have h2 : u0 = _ := h2; have h3 : u1 = _ := h3; have h4 : u2 = _ := h4; have h5 : u3 = _ := h5; have h6 : u4 = _ := h6
    subst hr; subst h2; subst h3; subst h4; subst h5; subst h6
    exact fin0 (by rw [iI_z]; exact g0 hok u5 u6 u7 u8 u9 u10 h1)
  · refine Or.inr ⟨?_, by rw [kl_1]; exact g1 hok⟩
    unfold tp_O_trace
    rw [iI_z, kl_3, kl_256]
    by_cases h1 : 0 ≤ t ∧ t ≤ 3
    · exact Or.inr (call_0 (fun Q q => t_O_requireRange ht (by omega) (by omega) h1 q) (Or.inl (tpR hsp (by omega) (by omega) (fun w => hok ⟨h1, w⟩))))
    · exact Or.inl (tpR ht (by omega) (by omega) h1)
theorem M_trace1 {W H : Nat} {code tr c p hpo hcu : Int32} {fu ff fs fl fa fx fy fc : Nat → Int32} {t sp : Int} (ht : (-2147483648 ≤ t ∧ t < 2147483648)) (hsp : (-2147483648 ≤ sp ∧ sp < 2147483648)) (hno : ¬ okT t sp) {post : Int32 → (Int32 × Int32 × Int32 × Int32 × Int32 × Int32 × (Nat → Int32) × (Nat → Int32) × (Nat → Int32) × (Nat → Int32) × (Nat → Int32) × (Nat → Int32) × (Nat → Int32)) → Prop}
    (g : post (iI 0) (iI 1, tr, c, p, hpo, hcu, fu, ff, fs, fl, fa, fx, fy)) :
    wp_M_trace 256 256 900 900 900 900 3600 3600 code (iI W) (iI H) tr c p hpo hcu fc fu ff fs fl fa fx fy (iI t) (iI sp) post := by
  have J : wp_M_trace_J25 256 256 900 900 900 900 3600 3600 (iI W) (iI H) fc code tr c p hpo hcu fu ff fs fl fa fx fy (iI t) (iI sp) post := by
    unfold wp_M_trace_J25 wp_M_trace_J26
    rw [kl_1]
    refine rfs (by omega) (fun h => by omega) (fun _ => ?_)
    rw [iI_z]; exact g
  unfold wp_M_trace
  rw [iI_z, kl_3, kl_256]
  refine call_i (fun Q q => t_M_in ht (by omega) (by omega) q) ?_
  rw [bI_0]
  refine ⟨fun _ => J, fun h => ?_⟩
  refine call_i (fun Q q => t_M_in hsp (by omega) (by omega) q) ?_
  rw [bI_0]
  exact ⟨fun _ => J, fun h2 => absurd ⟨Classical.not_not.1 h, Classical.not_not.1 h2⟩ hno⟩
def okS (s : Int) : Prop := 1 ≤ s ∧ s ≤ 8
theorem X_polygon {W H nb nl na nX nY S nc : Nat} {T : TS} {a : Prop} {fl fb fa fx fy : Nat → Int32} (hK : KU W H nb nl na nX nY) (hA : a → TB W H 7 T ∧ RC T (iI T.1) fl fb fa fx fy) {p s : Int} (hp : (-2147483648 ≤ p ∧ p < 2147483648)) (hs : (-2147483648 ≤ s ∧ s < 2147483648)) (hS : S = W * (H + 1) + H * (W + 1)) (hSb : S < 600) (hnc : nc = S * 24) {rc sc co : Int32} {gp gc g2 g1 gx gy ga gt' : Nat → Int32} {fO : Nat → Int64} {post : Int32 → (Int32 × Int32 × Int32 × (Nat → Int32) × (Nat → Int32) × (Nat → Int32) × (Nat → Int32) × (Nat → Int32) × (Nat → Int32) × (Nat → Int32) × (Nat → Int32) × (Nat → Int64)) → Prop}
    (g0 : a → inO T p → okS s → ∀ gp' gc' g2' g1' gx' gy' ga' gt'', oGX (pX T p.toNat (fndK T p.toNat s) (fnd T p.toNat s)) (pY T p.toNat (fndK T p.toNat s) (fnd T p.toNat s)) (fnd T p.toNat s) (fndK T p.toNat s) gp' gx' gy' ga' gt'' → post (iI 0) (iI 0, iI ((fnd T p.toNat s : Nat) : Int), iI (fndC T p.toNat s), gp', gc', g2', g1', gx', gy', ga', gt'', oU 0 ((fnd T p.toNat s : Nat) : Int) fO))
    (g1' : ow3 a (inO T p) (okS s) ≠ 0 → post (iI (ow3 a (inO T p) (okS s))) (rc, sc, co, gp, gc, g2, g1, gx, gy, ga, gt', fO)) :
    ww_L_polygon nb S nX nY nc S S S S S S 1 (iI (cI a (T.1 : Int) 0)) (bI a) rc sc co fb gp fx fy gc g2 g1 gx gy ga gt' fO (iI p) (iI s) post := by
  unfold ww_L_polygon
  by_cases ha : a
  · obtain ⟨hT, hR⟩ := hA ha
    have hc := TB_cnt hT
    rw [cI_t ha]
    by_cases hi : inO T p
    · by_cases hok : okS s
      · obtain ⟨o, rfl⟩ : ∃ o : Nat, p = (o : Int) := ⟨p.toNat, by have := hi.1; omega⟩
        have ho : o < T.1 := by have := hi.2; omega
        have g0 := g0 ha hi hok
        rw [Int.toNat_natCast] at g0
        left
        unfold wp_L_polygon
        refine ⟨fun r u => r = iI ((fnd T o s : Nat) : Int) ∧ u.1 = iI 0 ∧ u.2.1 = iI ((fnd T o s : Nat) : Int) ∧ u.2.2.1 = iI (fndC T o s) ∧ oGX (pX T o (fndK T o s) (fnd T o s)) (pY T o (fndK T o s) (fnd T o s)) (fnd T o s) (fndK T o s) u.2.2.2.1 u.2.2.2.2.2.2.2.1 u.2.2.2.2.2.2.2.2.1 u.2.2.2.2.2.2.2.2.2.1 u.2.2.2.2.2.2.2.2.2.2, ?_, ?_⟩
        · unfold wp_O_polygon
          rw [kl_1, kl_8]
          refine call_0 (fun Q q => rqT ha q) (call_0 (fun Q q => rqI hp (by omega) hi q) (call_0 (fun Q q => t_O_requireRange hs (by omega) (by omega) hok q) ?_))
          refine ⟨fun u => u = iI 0, by unfold wp_C_forget; exact iI_z, ?_⟩
          rintro u0 hu
          have hu : u0 = _ := hu; subst hu
          refine ⟨fun r u => r = iI ((fnd T o s : Nat) : Int) ∧ u.1 = iI ((fnd T o s : Nat) : Int) ∧ u.2.1 = iI (fndC T o s) ∧ oGX (pX T o (fndK T o s) (fnd T o s)) (pY T o (fndK T o s) (fnd T o s)) (fnd T o s) (fndK T o s) u.2.2.1 u.2.2.2.2.2.2.1 u.2.2.2.2.2.2.2.1 u.2.2.2.2.2.2.2.2.1 u.2.2.2.2.2.2.2.2.2, t_G_find hK hT hR ho hok hS hSb hnc (fun a1 a2 a3 a4 a5 a6 a7 a8 h => ⟨rfl, rfl, rfl, h⟩), ?_⟩
          rintro r v0 v1 v2 v3 v4 v5 v6 v7 v8 v9 ⟨h1, h2, h3, h4⟩
          exact ⟨h1, rfl, h2, h3, h4⟩
        · rintro r v0 v1 v2 v3 v4 v5 v6 v7 v8 v9 v10 ⟨h1, h2, h3, h4, h5⟩
          have h1 : r = _ := h1; have h2 : v0 = _ := h2; have h3 : v1 = _ := h3; have h4 : v2 = _ := h4
          subst h1; subst h2; subst h3; subst h4
          exact fin0 (by rw [iI_z]; exact g0 _ _ _ _ _ _ _ _ h5)
      · have g1' := g1' (by rw [w3_3 ha hi hok]; omega)
        rw [w3_3 ha hi hok] at g1'
        refine Or.inr (Or.inr (Or.inr ⟨?_, by rw [kl_3]; exact g1'⟩))
        unfold tp_O_polygon
        rw [kl_1, kl_8]
        exact Or.inr (call_0 (fun Q q => rqT ha q) (Or.inr (call_0 (fun Q q => rqI hp (by omega) hi q) (Or.inl (tpR hs (by omega) (by omega) hok)))))
    · have g1' := g1' (by rw [w3_2 ha hi]; omega)
      rw [w3_2 ha hi] at g1'
      refine Or.inr (Or.inr (Or.inl ⟨?_, by rw [kl_2]; exact g1'⟩))
      unfold tp_O_polygon
      exact Or.inr (call_0 (fun Q q => rqT ha q) (Or.inl (tpI hp (by omega) hi)))
  · have g1' := g1' (by rw [w3_1 ha]; omega)
    rw [w3_1 ha] at g1'
    exact Or.inr (Or.inl ⟨Or.inl (tpT ha), by rw [kl_1]; exact g1'⟩)
theorem M_polygon {W H : Nat} {T : TS} {a : Prop} {mp code v1 v2 v3 v4 v5 : Int32} {gf gs gl ga gx gy fc fo fk : Nat → Int32} (hA : a → TB W H 7 T ∧ RM T (iI T.1) mp gf gs gl ga gx gy) {p s : Int} (hp : (-2147483648 ≤ p ∧ p < 2147483648)) (hs : (-2147483648 ≤ s ∧ s < 2147483648)) {post : Int32 → (Int32 × Int32 × Int32 × Int32 × Int32 × Int32 × (Nat → Int32) × (Nat → Int32) × (Nat → Int32)) → Prop}
    (g0 : a → inO T p → okS s → ∀ fc' fo' fk', (∀ j, j < fnd T p.toNat s → fk' j = iI ((fndK T p.toNat s j : Nat) : Int)) → post (iI ((fnd T p.toNat s : Nat) : Int)) (iI 0, iI 1, iI p, iI ((fnd T p.toNat s : Nat) : Int), iI (fndC T p.toNat s), iI 0, fc', fo', fk'))
    (g1 : ow3 a (inO T p) (okS s) ≠ 0 → post (iI 0) (iI (ow3 a (inO T p) (okS s)), v1, v2, v3, v4, v5, fc, fo, fk)) :
    wp_M_polygon 900 4200 4200 900 3600 3600 512 code (bI a) (iI (cI a (T.1 : Int) 0)) v1 v2 v3 v4 v5 gs fc fo gf gx gy fk (iI p) (iI s) post := by
  have hcb := cnt_b (fun ha => (hA ha).1)
  have J : ∀ y : Int, 0 ≤ y ∧ y ≤ 3 → ow3 a (inO T p) (okS s) = y → wp_M_polygon_J45 900 4200 4200 900 3600 3600 512 (bI a) (iI (cI a (T.1 : Int) 0)) gs gf gx gy code v1 v2 v3 v4 v5 fc fo fk (iI p) (iI s) (iI y) post := by
    intro y hy hw
    unfold wp_M_polygon_J45
    refine rfs hy (fun h0 => ?_) (fun h1 => ?_)
    · rw [h0] at hw
      obtain ⟨ha, hi, hok⟩ := w3_i hw
      obtain ⟨hT, hR⟩ := hA ha
      obtain ⟨o, rfl⟩ : ∃ o : Nat, p = (o : Int) := ⟨p.toNat, by have := hi.1; omega⟩
      have ho : o < T.1 := by have := hi.2; omega
      have g0 := g0 ha hi hok
      rw [Int.toNat_natCast] at g0
      simp only [iI_lit, iI_neg, iI_add, iI_sub, iI_mul, iI_nI, iI_ofNat, iI_lt, iI_le, iI_eq, iI_cl, bI_0, bI_1, forall_eq, forall_eq_apply_imp_iff, not_true_eq_false, not_false_eq_true, ne_eq, Classical.not_not]
      exact t_M_polyL hT hR ho hok (fun a1 a2 a3 h => g0 a1 a2 a3 h)
    · have g1 := g1 (by omega)
      rw [hw] at g1
      rw [iI_z]; exact g1
  unfold wp_M_polygon
  simp (disch := omega) only [iI_lit, iI_neg, iI_add, iI_sub, iI_mul, iI_nI, iI_ofNat, iI_lt, iI_le, iI_eq, iI_cl, bI_0, bI_1, forall_eq, forall_eq_apply_imp_iff, not_true_eq_false, not_false_eq_true, ne_eq, Classical.not_not]
  refine ⟨fun ha => ?_, fun ha => J 1 (by omega) (w3_1 ha)⟩
  refine call_i (fun Q q => t_M_in hp (by omega) (by omega) q) ?_
  simp only [iI_lit, iI_neg, iI_add, iI_sub, iI_mul, iI_nI, iI_ofNat, iI_lt, iI_le, iI_eq, iI_cl, bI_0, bI_1, forall_eq, forall_eq_apply_imp_iff, not_true_eq_false, not_false_eq_true, ne_eq, Classical.not_not]
  rw [cI_t ha]
  rw [cI_t ha] at J
  refine ⟨fun h => ?_, fun h => J 2 (by omega) (w3_2 ha (fun w => h ⟨w.1, by have := w.2; omega⟩))⟩
  have hi : inO T p := ⟨h.1, by omega⟩
  refine call_i (fun Q q => t_M_in hs (by omega) (by omega) q) ?_
  simp only [iI_lit, iI_neg, iI_add, iI_sub, iI_mul, iI_nI, iI_ofNat, iI_lt, iI_le, iI_eq, iI_cl, bI_0, bI_1, forall_eq, forall_eq_apply_imp_iff, not_true_eq_false, not_false_eq_true, ne_eq, Classical.not_not]
  exact ⟨fun h2 => J 0 (by omega) (w3_0 ha hi h2), fun h2 => J 3 (by omega) (w3_3 ha hi h2)⟩
def okC (sh e : Int) : Prop := (0 ≤ sh ∧ sh ≤ 65) ∧ 0 ≤ e ∧ e ≤ 64
theorem X_curves {X Y : Nat → Int} {N S : Nat} {K : Nat → Nat} {b : Prop} {gp gx gy ga gt' fe ffi tl fl tp fp hx hy : Nat → Int32} (hB : b → PG X Y N ∧ (N ≤ S ∧ S < 10000) ∧ oGX X Y N K gp gx gy ga gt') {sh e : Int} (hsh : (-2147483648 ≤ sh ∧ sh < 2147483648)) (he : (-2147483648 ≤ e ∧ e < 2147483648)) {rc : Int32} {fO : Nat → Int64} {post : Int32 → (Int32 × (Nat → Int32) × (Nat → Int32) × (Nat → Int32) × (Nat → Int32) × (Nat → Int32) × (Nat → Int32) × (Nat → Int32) × (Nat → Int32) × (Nat → Int64)) → Prop}
    (g0 : b → okC sh e → ∀ fe' ffi' tl' fl' tp' fp' u v, VR X Y N sh e (vN X Y N sh e) ffi' fl' fp' → post (iI 0) (iI ((vN X Y N sh e : Nat) : Int), fe', ffi', tl', fl', tp', fp', u, v, oU 0 ((vN X Y N sh e : Nat) : Int) fO))
    (g1 : ow2 b (okC sh e) ≠ 0 → post (iI (ow2 b (okC sh e))) (rc, fe, ffi, tl, fl, tp, fp, hx, hy, fO)) :
    ww_L_curves S (S + 1) S S S S S S S 4 S 4 1 (iI (cI b (N : Int) 0)) rc ga fe ffi tl fl tp fp gt' gx hx gy hy fO (iI sh) (iI e) post := by
  unfold ww_L_curves
  by_cases hb : b
  · obtain ⟨hG, hS, hX⟩ := hB hb
    have hN := hG.1
    rw [cI_t hb]
    by_cases hok : okC sh e
    · have g0 := g0 hb hok
      left
      unfold wp_L_curves
      refine ⟨fun r u => r = iI ((vN X Y N sh e : Nat) : Int) ∧ u.1 = iI ((vN X Y N sh e : Nat) : Int) ∧ VR X Y N sh e (vN X Y N sh e) u.2.2.1 u.2.2.2.2.1 u.2.2.2.2.2.2.1, ?_, ?_⟩
      · unfold wp_O_curves
        rw [iI_z, kl_65, kl_64]
        refine call_0 (fun Q q => rqG (by omega) (by omega) q) (call_0 (fun Q q => t_O_requireRange hsh (by omega) (by omega) hok.1 q) (call_0 (fun Q q => t_O_requireRange he (by omega) (by omega) hok.2 q) ?_))
        refine ⟨fun r u => r = iI ((vN X Y N sh e : Nat) : Int) ∧ u.1 = iI ((vN X Y N sh e : Nat) : Int) ∧ VR X Y N sh e (vN X Y N sh e) u.2.2.1 u.2.2.2.2.1 u.2.2.2.2.2.2.1, t_C_make hG hS (fun j hj => (hX j hj).2.2.2.1) (fun j hj => (hX j hj).2.2.2.2) (fun j hj => ⟨(hX j hj).2.1, (hX j hj).2.2.1⟩) hok.1 hok.2 (fun a1 a2 a3 a4 a5 a6 a7 a8 h => ⟨rfl, rfl, h⟩), ?_⟩
        rintro r u0 u1 u2 u3 u4 u5 u6 u7 u8 ⟨h1, h2, h3⟩
        exact ⟨h1, h2, h3⟩
      · rintro r u0 u1 u2 u3 u4 u5 u6 u7 u8 ⟨h1, h2, h3⟩
        have h1 : r = _ := h1; have h2 : u0 = _ := h2
        subst h1; subst h2
        exact fin0 (by rw [iI_z]; exact g0 _ _ _ _ _ _ _ _ h3)
    · have g1 := g1 (by rw [w2_2 hb hok]; omega)
      rw [w2_2 hb hok] at g1
      refine Or.inr (Or.inr ⟨?_, by rw [kl_2]; exact g1⟩)
      unfold tp_O_curves
      rw [iI_z, kl_65, kl_64]
      refine Or.inr (call_0 (fun Q q => rqG (by omega) (by omega) q) ?_)
      by_cases h1 : 0 ≤ sh ∧ sh ≤ 65
      · exact Or.inr (call_0 (fun Q q => t_O_requireRange hsh (by omega) (by omega) h1 q) (Or.inl (tpR he (by omega) (by omega) (fun w => hok ⟨h1, w⟩))))
      · exact Or.inl (tpR hsh (by omega) (by omega) h1)
  · have g1 := g1 (by rw [w2_1 hb]; omega)
    rw [w2_1 hb] at g1
    refine Or.inr (Or.inl ⟨?_, by rw [kl_1]; exact g1⟩)
    unfold tp_O_curves
    rw [cI_f hb]
    exact Or.inl tpG
theorem M_curves {X Y : Nat → Int} {N : Nat} {K : Nat → Nat} {b : Prop} {of mc hcu cc csh call code : Int32} {fk ff fs fx fy px py fg fj ffi fm ffs : Nat → Int32} (hB : b → mc = iI (N : Int) ∧ GM X Y N K of fk ff fs fx fy) {sh e : Int} (hsh : (-2147483648 ≤ sh ∧ sh < 2147483648)) (he : (-2147483648 ≤ e ∧ e < 2147483648))
    {post : Int32 → (Int32 × Int32 × Int32 × Int32 × Int32 × (Nat → Int32) × (Nat → Int32) × (Nat → Int32) × (Nat → Int32) × (Nat → Int32) × (Nat → Int32) × (Nat → Int32)) → Prop}
    (g0 : b → okC sh e → ∀ fg' ffi' fm' ffs' fj' px' py', VR X Y N sh e (vN X Y N sh e) ffi' fm' ffs' → post (iI ((vN X Y N sh e : Nat) : Int)) (iI 0, iI 1, iI ((vN X Y N sh e : Nat) : Int), iI sh, iI e, fg', ffi', fm', ffs', fj', px', py'))
    (g1 : ow2 b (okC sh e) ≠ 0 → post (iI 0) (iI (ow2 b (okC sh e)), hcu, cc, csh, call, fg, ffi, fm, ffs, fj, px, py)) :
    wp_M_curves 520 512 512 512 900 900 3600 3600 512 3600 4 4 code (bI b) of mc hcu cc csh call fg ffi fm fk ff fs fx fy ffs fj px py (iI sh) (iI e) post := by
  have J : ∀ y : Int, 0 ≤ y ∧ y ≤ 3 → ow2 b (okC sh e) = y → wp_M_curves_J37 520 512 512 512 900 900 3600 3600 512 3600 4 4 (bI b) of mc fk ff fs fx fy code hcu cc csh call fg ffi fm ffs fj px py (iI sh) (iI e) (iI y) post := by
    intro y hy hw
    unfold wp_M_curves_J37
    refine rfs hy (fun h0 => ?_) (fun h1 => ?_)
    · rw [h0] at hw
      obtain ⟨hb, hok⟩ := w2_i hw
      obtain ⟨hmc, hG, hX, hY, hF⟩ := hB hb
      rw [iI_z, hmc]
      exact t_M_cvL hG hX hY hok.1 hok.2 (g0 hb hok)
    · have g1 := g1 (by omega)
      rw [hw] at g1
      rw [iI_z]; exact g1
  unfold wp_M_curves wp_M_curves_J32
  simp only [iI_lit, iI_neg, iI_add, iI_sub, iI_mul, iI_nI, iI_ofNat, iI_lt, iI_le, iI_eq, iI_cl, bI_0, bI_1, forall_eq, forall_eq_apply_imp_iff, not_true_eq_false, not_false_eq_true, ne_eq, Classical.not_not]
  refine ⟨fun hb => ?_, fun hb => J 1 (by omega) (w2_1 hb)⟩
  refine call_i (fun Q q => t_M_in hsh (by omega) (by omega) q) ?_
  simp only [iI_lit, iI_neg, iI_add, iI_sub, iI_mul, iI_nI, iI_ofNat, iI_lt, iI_le, iI_eq, iI_cl, bI_0, bI_1, forall_eq, forall_eq_apply_imp_iff, not_true_eq_false, not_false_eq_true, ne_eq, Classical.not_not]
  refine ⟨fun h => J 2 (by omega) (w2_2 hb (fun w => h w.1)), fun h => ?_⟩
  refine call_i (fun Q q => t_M_in he (by omega) (by omega) q) ?_
  simp only [iI_lit, iI_neg, iI_add, iI_sub, iI_mul, iI_nI, iI_ofNat, iI_lt, iI_le, iI_eq, iI_cl, bI_0, bI_1, forall_eq, forall_eq_apply_imp_iff, not_true_eq_false, not_false_eq_true, ne_eq, Classical.not_not]
  exact ⟨fun h2 => J 0 (by omega) (w2_0 hb ⟨h, h2⟩), fun h2 => J 2 (by omega) (w2_2 hb (fun w => h2 w.2))⟩
noncomputable def tdV (W H : Nat) (C : Nat → Nat → Int) (n3 n4 n5 n6 q : Int) : Int := cI (q = 0) (W : Int) (cI (q = 1) (H : Int) (cI (q = 2) (cN W H C) (cI (q = 3) n3 (cI (q = 4) n4 (cI (q = 5) n5 (cI (q = 6) n6 (-1)))))))
theorem X_told {W H n : Nat} {C : Nat → Nat → Int} {fc : Nat → Int32} (hp : Pic W H C) (hc : PicC W H C n fc) {n3 n4 n5 n6 q : Int} (hq : (-2147483648 ≤ q ∧ q < 2147483648)) {post : Int32 → Unit → Prop} (g : post (iI (tdV W H C n3 n4 n5 n6 q)) ()) : wp_O_told n (iI n6) (iI n4) (iI n5) (iI n3) (iI W) (iI H) fc (iI q) post := by
  unfold tdV at g
  unfold wp_O_told
  simp (disch := omega) only [iI_lit, iI_neg, iI_add, iI_sub, iI_mul, iI_nI, iI_ofNat, iI_lt, iI_le, iI_eq, iI_cl, bI_0, bI_1, forall_eq, forall_eq_apply_imp_iff, not_true_eq_false, not_false_eq_true, ne_eq, Classical.not_not]
  refine ⟨fun e => ?_, fun e => ?_, fun e => ?_, fun e => ?_, fun e => ?_, fun e => ?_, fun e => ?_, fun e0 e1 e2 e3 e4 e5 e6 => ?_⟩
  · rw [cI_t e] at g; exact g
  · rw [cI_f (by omega), cI_t e] at g; exact g
  · rw [cI_f (by omega), cI_f (by omega), cI_t e] at g; exact call_i (fun Q q => t_P_coloured hp hc q) g
  · rw [cI_f (by omega), cI_f (by omega), cI_f (by omega), cI_t e] at g; exact g
  · rw [cI_f (by omega), cI_f (by omega), cI_f (by omega), cI_f (by omega), cI_t e] at g; exact g
  · rw [cI_f (by omega), cI_f (by omega), cI_f (by omega), cI_f (by omega), cI_f (by omega), cI_t e] at g; exact g
  · rw [cI_f (by omega), cI_f (by omega), cI_f (by omega), cI_f (by omega), cI_f (by omega), cI_f (by omega), cI_t e] at g; exact g
  · rw [cI_f e0, cI_f e1, cI_f e2, cI_f e3, cI_f e4, cI_f e5, cI_f e6] at g; exact g
theorem M_told {W H : Nat} {C : Nat → Nat → Int} {fc : Nat → Int32} (hp : Pic W H C) (hc : PicM C fc) {b c : Prop} {n3 n4 n5 n6 q : Int} (hq : (-2147483648 ≤ q ∧ q < 2147483648)) {m4 m5 m6 code : Int32} (hb : b → m4 = iI n4 ∧ m5 = iI n5) (hb' : c → m6 = iI n6) {post : Int32 → Int32 → Prop} (g : post (iI (tdV W H C n3 (cI b n4 0) (cI b n5 0) (cI c n6 0) q)) (iI 0)) : wp_M_told 256 code (iI W) (iI H) (iI n3) (bI b) m4 m5 (bI c) m6 fc (iI q) post := by
  have e16 := cN_16 hp
  have hC := hp.2.2.1
  unfold wp_M_told
  simp only [iI_z]
  have hbd : ∀ k, 0 ≤ sm (fun j => cI ((fc j).toInt ≤ 0) 0 1) k ∧ sm (fun j => cI ((fc j).toInt ≤ 0) 0 1) k ≤ k := fun k => by
    have := sm_b (f := fun j => cI ((fc j).toInt ≤ 0) 0 1) (n := k) (lo := 0) (hi := 1) (fun i _ => cI_s (P := fun z => (0:Int) ≤ z ∧ z ≤ 1) (fun _ => by omega) (fun _ => by omega))
    omega
  have eN : cN 16 16 C = sm (fun j => cI ((fc j).toInt ≤ 0) 0 1) 256 := by
    rw [show 256 = 16 * 16 from rfl, sm_mul]
    refine sm_c (fun y hy => sm_c (fun x hx => ?_))
    have := hC x y
    rw [Nat.mul_comm y 16, hc x y hx hy, iI_T (by omega) (by omega)]
  refine lp_n (fun k z => z.1 = iI (sm (fun j => cI ((fc j).toInt ≤ 0) 0 1) k) ∧ z.2 = iI k) 256 ⟨0, by omega, rfl, rfl⟩ ?_
  rintro k ⟨a, d⟩ back hk ⟨h1, h2⟩ hback
  have h1 : a = _ := h1; have h2 : d = _ := h2; subst h1; subst h2
  have ef := iI_of (fc k)
  simp (disch := omega) only [wp_M_told_L9, wp_M_told_J31, iI_lit, iI_neg, iI_add, iI_sub, iI_mul, iI_nI, iI_ofNat, iI_lt, iI_le, iI_eq, iI_cl, bI_0, bI_1, forall_eq, forall_eq_apply_imp_iff, not_true_eq_false, not_false_eq_true, ne_eq, Classical.not_not]
  refine ⟨fun z => ?_, fun z => ⟨iI_in (by omega) (by omega) (by omega), ?_⟩⟩
  · obtain rfl : k = 256 := by omega
    rw [← eN, e16]
    unfold tdV at g
    refine ⟨fun e => ?_, fun e => ?_, fun e => ?_, fun e => ?_, fun e => ⟨fun w => ?_, fun w => ?_⟩, fun e => ⟨fun w => ?_, fun w => ?_⟩, fun e => ⟨fun w => ?_, fun w => ?_⟩, fun e0 e1 e2 e3 e4 e5 e6 => ?_⟩
    · rw [cI_t e] at g; exact g
    · rw [cI_f (by omega), cI_t e] at g; exact g
    · rw [cI_f (by omega), cI_f (by omega), cI_t e] at g; exact g
    · rw [cI_f (by omega), cI_f (by omega), cI_f (by omega), cI_t e] at g; exact g
    · rw [cI_f (by omega), cI_f (by omega), cI_f (by omega), cI_f (by omega), cI_t e, cI_f w] at g; exact g
    · rw [cI_f (by omega), cI_f (by omega), cI_f (by omega), cI_f (by omega), cI_t e, cI_t w] at g; rw [(hb w).1]; exact g
    · rw [cI_f (by omega), cI_f (by omega), cI_f (by omega), cI_f (by omega), cI_f (by omega), cI_t e, cI_f w] at g; exact g
    · rw [cI_f (by omega), cI_f (by omega), cI_f (by omega), cI_f (by omega), cI_f (by omega), cI_t e, cI_t w] at g; rw [(hb w).2]; exact g
    · rw [cI_f (by omega), cI_f (by omega), cI_f (by omega), cI_f (by omega), cI_f (by omega), cI_f (by omega), cI_t e, cI_f w] at g; exact g
    · rw [cI_f (by omega), cI_f (by omega), cI_f (by omega), cI_f (by omega), cI_f (by omega), cI_f (by omega), cI_t e, cI_t w] at g; rw [hb' w]; exact g
    · rw [cI_f e0, cI_f e1, cI_f e2, cI_f e3, cI_f e4, cI_f e5, cI_f e6] at g; exact g
  · have b1 := Int32.le_toInt (fc k); have b2 := Int32.toInt_lt (fc k)
    rw [Int.toNat_natCast, ef, iI_le b1 (by omega) (by omega) (by omega)]
    refine ⟨fun q2 => hback _ (by omega) ⟨?_, rfl⟩, fun q2 => hback _ (by omega) ⟨?_, rfl⟩⟩
    · show iI _ = iI (sm _ k + cI _ 0 1); rw [cI_t q2]
    · show iI _ = iI (sm _ k + cI _ 0 1); rw [cI_f q2]
theorem X_clear {n : Nat} {fc : Nat → Int32} (hn : n < 1000000) {xc xt a1 a2 a3 : Int32} {post : ((Nat → Int32) × Int32 × Int32 × Int32 × Int32 × Int32) → Prop} (g : ∀ fc', (∀ k, k < n → fc' k = iI 0) → post (fc', iI 0, iI 0, iI 0, iI 0, iI 0)) : wp_O_clear n fc xc xt a1 a2 a3 post := by
  unfold wp_O_clear wp_P_wipe
  refine ⟨fun f => ∀ k, k < n → f k = iI 0, ?_, ?_⟩
  · rw [iI_z]
    exact ⟨fun f => ∀ k, k < n → f k = iI 0, t_Ja_fill hn (fun f' h => h), fun f h => h⟩
  · intro f hf
    refine ⟨fun u => u = (iI 0, iI 0, iI 0, iI 0, iI 0), t_O_forgetOutlines rfl, ?_⟩
    rintro u0 u1 u2 u3 u4 hu
    simp only [Prod.mk.injEq] at hu
    obtain ⟨rfl, rfl, rfl, rfl, rfl⟩ := hu
    exact g f hf
theorem M_clear {fc : Nat → Int32} {code a1 a2 a3 a4 : Int32} {post : (Int32 × Int32 × Int32 × Int32 × Int32 × (Nat → Int32)) → Prop} (g : ∀ fc', (∀ k, k < 256 → fc' k = iI 0) → post (iI 0, iI 0, iI 0, iI 0, iI 0, fc')) : wp_M_clear 256 code a1 a2 a3 a4 fc post := by
  unfold wp_M_clear
  simp only [iI_z]
  refine lp_n (fun k z => z.1 = iI k ∧ ∀ j, j < k → z.2 j = iI 0) 256 ⟨0, by omega, rfl, fun j hj => absurd hj (Nat.not_lt_zero j)⟩ ?_
  rintro k ⟨a, f⟩ back hk ⟨h1, h2⟩ hback
  have h1 : a = _ := h1; subst h1
  have h2 : ∀ j, j < k → f j = iI 0 := h2
  simp (disch := omega) only [wp_M_clear_L7, iI_lit, iI_neg, iI_add, iI_sub, iI_mul, iI_nI, iI_ofNat, iI_lt, iI_le, iI_eq, iI_cl, bI_0, bI_1, forall_eq, forall_eq_apply_imp_iff, not_true_eq_false, not_false_eq_true, ne_eq, Classical.not_not]
  refine ⟨fun z => ?_, fun z => ⟨iI_in (by omega) (by omega) (by omega), hback _ (by omega) ⟨iI_e (by omega), fun j hj => ?_⟩⟩⟩
  · refine ⟨fun u => u = (iI 0, iI 0, iI 0, iI 0), t_M_forget rfl, ?_⟩
    rintro u0 u1 u2 u3 hu
    simp only [Prod.mk.injEq] at hu
    obtain ⟨rfl, rfl, rfl, rfl⟩ := hu
    exact g f (fun j hj => h2 j (by omega))
  · show upd f _ _ j = _
    rw [Int.toNat_natCast]
    by_cases ej : j = k
    · subst ej; rw [upd_t]
    · rw [upd_f _ _ ej]; exact h2 j (by omega)
