-- painting, wiping, counting
noncomputable def pC (C : Nat → Nat → Int) (x y k : Nat) (c : Int) : Nat → Nat → Int := fun a b => cI (b = y ∧ x ≤ a ∧ a < x + k) c (C a b)
noncomputable def pN (C : Nat → Nat → Int) (x y : Nat) (c : Int) (k : Nat) : Int := sm (fun i => cI (C (x + i) y = c) 0 1) k
theorem pN_s (C : Nat → Nat → Int) (x y : Nat) (c : Int) (k : Nat) : pN C x y c (k + 1) = pN C x y c k + cI (C (x + k) y = c) 0 1 := rfl
theorem pN_b (C : Nat → Nat → Int) (x y : Nat) (c : Int) (k : Nat) : 0 ≤ pN C x y c k ∧ pN C x y c k ≤ k := by
  have := sm_b (f := fun i => cI (C (x + i) y = c) 0 1) (n := k) (lo := 0) (hi := 1) (fun i _ => cI_s (P := fun z => (0:Int) ≤ z ∧ z ≤ 1) (fun _ => by omega) (fun _ => by omega))
  unfold pN; omega
theorem pC_same {C : Nat → Nat → Int} {x y k : Nat} {c : Int} (h : C (x + k) y = c) : pC C x y (k + 1) c = pC C x y k c := by
  funext a b
  unfold pC
  by_cases e : b = y ∧ a = x + k
  · obtain ⟨rfl, rfl⟩ := e
    rw [cI_t (by omega), cI_f (by omega), h]
  · exact cI_c (by omega)
theorem pC_at {C : Nat → Nat → Int} {x y k : Nat} {c : Int} : pC C x y k c (x + k) y = C (x + k) y := by
  unfold pC; rw [cI_f (by omega)]
theorem pC_upd {C : Nat → Nat → Int} {x y k : Nat} {c : Int} (a b : Nat) : pC C x y (k + 1) c a b = cI (a = x + k ∧ b = y) c (pC C x y k c a b) := by
  unfold pC
  by_cases e : a = x + k ∧ b = y
  · rw [cI_t (by omega), cI_t e]
  · rw [cI_f e]; exact cI_c (by omega)
theorem PicC_upd {W H : Nat} {C : Nat → Nat → Int} {n : Nat} {f : Nat → Int32} {x y : Nat} {c : Int} (h : PicC W H C n f) (hx : x < W) (hy : y < H) : PicC W H (fun a b => cI (a = x ∧ b = y) c (C a b)) n (upd f (y * W + x) (iI c)) := by
  refine ⟨h.1, fun a b ha hb => ?_⟩
  show (if b * W + a = y * W + x then iI c else f (b * W + a)) = iI (cI (a = x ∧ b = y) c (C a b))
  by_cases e : a = x ∧ b = y
  · rw [cI_t e, if_pos (by rw [e.1, e.2])]
  · rw [cI_f e, if_neg (fun k => e (ix_inj ha hx k)), h.2 a b ha hb]
theorem PicM_upd {C : Nat → Nat → Int} {f : Nat → Int32} {x y : Nat} {c : Int} (h : PicM C f) (hx : x < 16) : PicM (fun a b => cI (a = x ∧ b = y) c (C a b)) (upd f (16 * y + x) (iI c)) := by
  intro a b ha hb
  show (if 16 * b + a = 16 * y + x then iI c else f (16 * b + a)) = iI (cI (a = x ∧ b = y) c (C a b))
  by_cases e : a = x ∧ b = y
  · rw [cI_t e, if_pos (by omega)]
  · rw [cI_f e, if_neg (by omega), h a b ha hb]
theorem PicC.eq {W H : Nat} {C C' : Nat → Nat → Int} {n : Nat} {f : Nat → Int32} (h : PicC W H C n f) (e : ∀ a b, C' a b = C a b) : PicC W H C' n f := by rwa [show C' = C from funext fun a => funext fun b => e a b]
theorem PicM.eq {C C' : Nat → Nat → Int} {f : Nat → Int32} (h : PicM C f) (e : ∀ a b, C' a b = C a b) : PicM C' f := by rwa [show C' = C from funext fun a => funext fun b => e a b]
theorem Pic.paint {W H : Nat} {C : Nat → Nat → Int} {x y k : Nat} {c : Int} (h : Pic W H C) (hc : 0 ≤ c ∧ c ≤ 7) (hy : y < H) (hk : x + k ≤ W) : Pic W H (pC C x y k c) := by
  obtain ⟨h1, h2, h3, h4⟩ := h
  refine ⟨h1, h2, fun a b => ?_, fun a b hab => ?_⟩
  · exact cI_s (P := fun z => 0 ≤ z ∧ z ≤ 7) (fun _ => hc) (fun _ => h3 a b)
  · unfold pC; rw [cI_f (by omega)]; exact h4 a b hab
theorem t_P_paint {W H : Nat} {C : Nat → Nat → Int} {n : Nat} {f : Nat → Int32} {x y : Nat} {m c : Int} {post : Int32 → (Nat → Int32) → Prop} (hp : Pic W H C) (hc : PicC W H C n f) (hx : x < W) (hy : y < H) (hm : 1 ≤ m ∧ m < 2147483648) (hcc : 0 ≤ c ∧ c ≤ 7)
    (g : ∀ f', PicC W H (pC C x y (min m (W - x)).toNat c) n f' → post (iI (pN C x y c (min m (W - x)).toNat)) f') : wp_P_paint n (iI W) f (iI x) (iI y) (iI m) (iI c) post := by
  obtain ⟨hW, hH, hC, -⟩ := hp
  have e2 := ix_lt (x := W - 1) (y := y) (W := W) (H := H) (by omega) (by omega)
  have e3 := Nat.mul_le_mul hW.2 hH.2
  unfold wp_P_paint
  simp (disch := omega) only [iI_lit, iI_neg, iI_add, iI_sub, iI_mul, iI_nI, iI_ofNat, iI_lt, iI_le, iI_eq, iI_cl, bI_0, bI_1, forall_eq, forall_eq_apply_imp_iff, not_true_eq_false, not_false_eq_true, ne_eq, Classical.not_not, jmin_i]
  generalize hM : (min m ((W : Int) - x)).toNat = M at g
  have hM' : min m ((W : Int) - x) = (M : Int) := by omega
  rw [hM']
  have eI : ∀ k : Nat, (y : Int) * W + x + k = ((y * W + (x + k) : Nat) : Int) := fun k => by
    rw [Int.natCast_add, Int.natCast_mul, Int.natCast_add]; omega
  refine lp_n (fun k z => z.1 = iI (pN C x y c k) ∧ z.2.1 = iI ((y : Int) * W + x + k) ∧ PicC W H (pC C x y k c) n z.2.2) M ⟨0, by omega, rfl, ?_, ?_⟩ ?_
  · show iI _ = iI _; congr 1
  · refine hc.eq (fun a b => ?_); unfold pC; rw [cI_f (by omega)]
  · rintro k ⟨a, b, f'⟩ back hk ⟨h1, h2, h3⟩ hback
    have h1 : a = _ := h1; have h2 : b = _ := h2; subst h1; subst h2
    have h3 : PicC W H (pC C x y k c) n f' := h3
    have e5 : y * W + (x + k) < 2147483648 := by omega
    have e6 : y * W + (x + M) < 2147483648 := by omega
    have e1 := pN_s C x y c k
    simp (disch := omega) only [wp_P_paint_L32, wp_P_paint_J64, eI M, eI k, iI_lit, iI_neg, iI_add, iI_sub, iI_mul, iI_nI, iI_ofNat, iI_lt, iI_le, iI_eq, iI_cl, bI_0, bI_1, forall_eq, forall_eq_apply_imp_iff, not_true_eq_false, not_false_eq_true, ne_eq, Classical.not_not]
    refine ⟨fun q => ?_, fun q => ?_⟩
    · obtain rfl : k = M := by omega
      exact g f' h3
    · have hk2 : k < M := by omega
      have ef := h3.2 (x + k) y (by omega) hy
      rw [pC_at] at ef
      have hcb := hC (x + k) y
      have hn : y * W + (x + k) < n := by rw [h3.1]; exact ix_lt (by omega) hy
      have hn2 : n < 2147483648 := by rw [h3.1]; omega
      rw [Int.toNat_natCast, ef]
      simp (disch := omega) only [iI_lit, iI_neg, iI_add, iI_sub, iI_mul, iI_nI, iI_ofNat, iI_lt, iI_le, iI_eq, iI_cl, bI_0, bI_1, forall_eq, forall_eq_apply_imp_iff, not_true_eq_false, not_false_eq_true, ne_eq, Classical.not_not]
      refine ⟨iI_in (by omega) (by omega) hn2, fun q2 => ?_, fun q2 => ⟨iI_in (by omega) (by omega) hn2, ?_⟩⟩
      · refine hback _ (by omega) ⟨?_, ?_, ?_⟩
        · rw [e1, cI_t q2]; show iI _ = iI _; congr 1; omega
        · show iI _ = iI _; congr 1; rw [eI (k + 1)]; omega
        · rw [pC_same q2]; exact h3
      · refine hback _ (by omega) ⟨?_, ?_, ?_⟩
        · rw [e1, cI_f q2]
        · show iI _ = iI _; congr 1; rw [eI (k + 1)]; omega
        · show PicC W H (pC C x y (k + 1) c) n (upd f' _ (vp_nar .byte _))
          rw [nar_b2 (by omega) (by omega)]
          exact (PicC_upd h3 (by omega) hy).eq (fun a b => pC_upd a b)
theorem t_Ja_fill {n : Nat} {f : Nat → Int32} {post : (Nat → Int32) → Prop} (hn : n < 1000000) (g : ∀ f', (∀ k, k < n → f' k = iI 0) → post f') : wp_Ja_fill n f (iI 0) post := by
  unfold wp_Ja_fill
  simp only [iI_lit, iI_neg, iI_add, iI_sub, iI_mul, iI_nI, iI_ofNat, iI_lt, iI_le, iI_eq, iI_cl, bI_0, bI_1, forall_eq, forall_eq_apply_imp_iff, not_true_eq_false, not_false_eq_true, ne_eq, Classical.not_not]
  refine lp_n (fun k z => z.1 = iI k ∧ ∀ j, j < k → z.2 j = iI 0) n ⟨0, by omega, rfl, fun j hj => by omega⟩ ?_
  rintro k ⟨a, f'⟩ back hk ⟨h1, h2⟩ hback
  have h1 : a = _ := h1; subst h1
  have h2 : ∀ j, j < k → f' j = iI 0 := h2
  simp (disch := omega) only [wp_Ja_fill_L5, iI_lit, iI_neg, iI_add, iI_sub, iI_mul, iI_nI, iI_ofNat, iI_lt, iI_le, iI_eq, iI_cl, bI_0, bI_1, forall_eq, forall_eq_apply_imp_iff, not_true_eq_false, not_false_eq_true, ne_eq, Classical.not_not]
  refine ⟨fun q => g f' (fun j hj => h2 j (by omega)), fun q => ⟨iI_in (by omega) (by omega) (by omega), ?_⟩⟩
  refine hback _ (by omega) ⟨rfl, fun j hj => ?_⟩
  show upd f' _ _ j = _
  unfold upd
  rw [nar_b (by omega) (by omega)]
  by_cases e : j = k
  · rw [if_pos (by omega)]
  · rw [if_neg (by omega)]; exact h2 j (by omega)
-- how many samples are coloured
noncomputable def cN (W H : Nat) (C : Nat → Nat → Int) : Int := sm (fun y => sm (fun x => cI (C x y ≤ 0) 0 1) W) H
theorem cN_16 {W H : Nat} {C : Nat → Nat → Int} (h : Pic W H C) : cN 16 16 C = cN W H C := by
  obtain ⟨hW, hH, hC, h0⟩ := h
  have e : ∀ y, sm (fun x => cI (C x y ≤ 0) 0 1) 16 = sm (fun x => cI (C x y ≤ 0) 0 1) W := fun y => by
    obtain ⟨d, hd⟩ : ∃ d, 16 = W + d := ⟨16 - W, by omega⟩
    rw [hd, sm_add, sm_0 (n := d)]; · omega
    intro k hk; rw [cI_t]; rw [h0 _ _ (by omega)]; omega
  unfold cN
  rw [sm_c (n := 16) (fun y _ => e y)]
  obtain ⟨d, hd⟩ : ∃ d, 16 = H + d := ⟨16 - H, by omega⟩
  rw [hd, sm_add, sm_0 (n := d)]; · omega
  intro k hk
  refine sm_0 (fun x _ => ?_)
  rw [cI_t]; rw [h0 _ _ (by omega)]; omega
theorem cN_b {W H : Nat} {C : Nat → Nat → Int} (hW : W ≤ 16) (hH : H ≤ 16) : 0 ≤ cN W H C ∧ cN W H C ≤ 256 := by
  have h1 : ∀ y, 0 ≤ sm (fun x => cI (C x y ≤ 0) 0 1) W ∧ sm (fun x => cI (C x y ≤ 0) 0 1) W ≤ 16 := fun y => by
    have := sm_b (f := fun x => cI (C x y ≤ 0) 0 1) (n := W) (lo := 0) (hi := 1) (fun i _ => cI_s (P := fun z => (0:Int) ≤ z ∧ z ≤ 1) (fun _ => by omega) (fun _ => by omega))
    omega
  have := sm_b (f := fun y => sm (fun x => cI (C x y ≤ 0) 0 1) W) (n := H) (lo := 0) (hi := 16) (fun y _ => h1 y)
  unfold cN; omega
theorem t_P_coloured {W H : Nat} {C : Nat → Nat → Int} {n : Nat} {f : Nat → Int32} {post : Int32 → Unit → Prop} (hp : Pic W H C) (hc : PicC W H C n f) (g : post (iI (cN W H C)) ()) : wp_P_coloured n f post := by
  obtain ⟨hW, hH, hC, -⟩ := hp
  have e3 := Nat.mul_le_mul hW.2 hH.2
  obtain ⟨hn, hf⟩ := hc
  have hb : ∀ k, 0 ≤ sm (fun j => cI ((f j).toInt ≤ 0) 0 1) k ∧ sm (fun j => cI ((f j).toInt ≤ 0) 0 1) k ≤ k := fun k => by
    have := sm_b (f := fun j => cI ((f j).toInt ≤ 0) 0 1) (n := k) (lo := 0) (hi := 1) (fun i _ => cI_s (P := fun z => (0:Int) ≤ z ∧ z ≤ 1) (fun _ => by omega) (fun _ => by omega))
    omega
  have eN : cN W H C = sm (fun j => cI ((f j).toInt ≤ 0) 0 1) n := by
    rw [hn, Nat.mul_comm, sm_mul]
    refine sm_c (fun y hy => sm_c (fun x hx => ?_))
    have := hC x y
    rw [hf x y hx hy, iI_T (by omega) (by omega)]
  unfold wp_P_coloured
  simp only [iI_lit]
  refine lp_n (fun k z => z.1 = iI (sm (fun j => cI ((f j).toInt ≤ 0) 0 1) k) ∧ z.2 = iI k) n ⟨0, by omega, rfl, rfl⟩ ?_
  rintro k ⟨a, b⟩ back hk ⟨h1, h2⟩ hback
  have h1 : a = _ := h1; have h2 : b = _ := h2; subst h1; subst h2
  have ef := iI_of (f k)
  simp (disch := omega) only [wp_P_coloured_L4, wp_P_coloured_J25, iI_lit, iI_neg, iI_add, iI_sub, iI_mul, iI_nI, iI_ofNat, iI_lt, iI_le, iI_eq, iI_cl, bI_0, bI_1, forall_eq, forall_eq_apply_imp_iff, not_true_eq_false, not_false_eq_true, ne_eq, Classical.not_not]
  refine ⟨fun q => ?_, fun q => ⟨iI_in (by omega) (by omega) (by omega), ?_⟩⟩
  · obtain rfl : k = n := by omega
    rwa [← eN]
  · have b1 := Int32.le_toInt (f k); have b2 := Int32.toInt_lt (f k)
    rw [Int.toNat_natCast, ef, iI_le b1 (by omega) (by omega) (by omega)]
    refine ⟨fun q2 => hback _ (by omega) ⟨?_, rfl⟩, fun q2 => hback _ (by omega) ⟨?_, rfl⟩⟩
    · show iI _ = iI (sm _ k + cI _ 0 1); rw [cI_t q2]; congr 1; omega
    · show iI _ = iI (sm _ k + cI _ 0 1); rw [cI_f q2]
