-- the polygon of the reference
theorem RP_lt2 {cn co g d cn' co' g' d' : Int} (h : RP cn co g d) (h' : RP cn' co' g' d') (hd : 0 ≤ d ∧ d ≤ 600) (hd' : 0 ≤ d' ∧ d' ≤ 600) : (cn < cn' ∨ (cn = cn' ∧ co < co')) ↔ g < g' := by
  unfold RP at h h'
  omega
noncomputable def gS (c : Nat → Nat → Int) (n i : Nat) : Int := gg c n i 3 i
noncomputable def bi (c : Nat → Nat → Int) (n : Nat) : Nat → Int
  | 0 => -1
  | k + 1 => cI (gS c n k < lo (gS c n) k) (k : Int) (bi c n k)
noncomputable def bA (c : Nat → Nat → Int) (n : Nat) : Nat := (bi c n (min 24 n)).toNat
theorem gS_0 {c : Nat → Nat → Int} (hc : Hc c) {n : Nat} (hn : 4 ≤ n ∧ n ≤ 512) : gS c n 0 < 1073741824 := by
  have := gg_near hc hn.2 n 3 0 (by omega) (by omega) (by omega)
  unfold gS; omega
theorem bi_s {c : Nat → Nat → Int} (hc : Hc c) {n : Nat} (hn : 4 ≤ n ∧ n ≤ 512) (k : Nat) : 0 ≤ bi c n (k + 1) ∧ bi c n (k + 1) < ((k + 1 : Nat) : Int) ∧ gS c n (bi c n (k + 1)).toNat = lo (gS c n) (k + 1) := by
  induction k with
  | zero =>
    have h := gS_0 hc hn
    have e : bi c n 1 = 0 := by show cI (gS c n 0 < 1073741824) ((0 : Nat) : Int) (bi c n 0) = 0; rw [cI_t h]; rfl
    have e2 : lo (gS c n) 1 = min 1073741824 (gS c n 0) := rfl
    rw [e, e2]
    refine ⟨by omega, by omega, ?_⟩
    show gS c n 0 = _; omega
  | succ k ih =>
    have e : bi c n (k + 1 + 1) = cI (gS c n (k + 1) < lo (gS c n) (k + 1)) ((k + 1 : Nat) : Int) (bi c n (k + 1)) := rfl
    have e2 : lo (gS c n) (k + 1 + 1) = min (lo (gS c n) (k + 1)) (gS c n (k + 1)) := rfl
    rw [e, e2]
    by_cases h : gS c n (k + 1) < lo (gS c n) (k + 1)
    · rw [cI_t h]
      refine ⟨by omega, by omega, ?_⟩
      rw [Int.toNat_natCast]; omega
    · rw [cI_f h]
      refine ⟨by omega, by omega, ?_⟩
      rw [ih.2.2]; omega
theorem bi_stop {c : Nat → Nat → Int} {n M m : Nat} (h : ∀ j, M ≤ j → j < m → 1073741824 ≤ gS c n j) (hm : M ≤ m) : bi c n m = bi c n M := by
  induction m with
  | zero => rw [show M = 0 by omega]
  | succ m ih =>
    by_cases e : M = m + 1
    · rw [e]
    · have e1 : bi c n (m + 1) = cI (gS c n m < lo (gS c n) m) (m : Int) (bi c n m) := rfl
      have := h m (by omega) (by omega); have := lo_i (gS c n) m
      rw [e1, cI_f (by omega)]
      exact ih (fun j h1 h2 => h j h1 (by omega)) (by omega)
theorem gS_far {c : Nat → Nat → Int} (hc : Hc c) {n i : Nat} (h1 : n - 2 ≤ i) (h2 : i < n) : gS c n i = 1073741824 := gg_far hc n 3 i h2 (by omega) (by omega)
theorem bA_s {c : Nat → Nat → Int} (hc : Hc c) {n : Nat} (hn : 4 ≤ n ∧ n ≤ 512) : bA c n < 24 ∧ bA c n < n ∧ bi c n (min 24 n) = ((bA c n : Nat) : Int) ∧ gS c n (bA c n) = lo (gS c n) (min 24 n) ∧ gg c n (bA c n) 3 (bA c n) < 1073741824 ∧ bi c n (min 24 (n - 2)) = ((bA c n : Nat) : Int) ∧ lo (gS c n) (min 24 (n - 2)) = gg c n (bA c n) 3 (bA c n) := by
  obtain ⟨k, hk⟩ : ∃ k, min 24 n = k + 1 := ⟨min 24 n - 1, by omega⟩
  have h := bi_s hc hn k
  rw [← hk] at h
  have hb : bi c n (min 24 n) = ((bA c n : Nat) : Int) := by unfold bA; omega
  have hl : lo (gS c n) (min 24 n) ≤ gS c n 0 := lo_le (by omega)
  have h0 := gS_0 hc hn
  have hgs : gS c n (bA c n) = lo (gS c n) (min 24 n) := h.2.2
  have hgg : gg c n (bA c n) 3 (bA c n) = lo (gS c n) (min 24 n) := hgs
  refine ⟨by omega, by omega, hb, hgs, by omega, ?_, ?_⟩
  · rw [← hb]
    exact (bi_stop (fun j h1 h2 => by rw [gS_far hc (by omega) (by omega)]; omega) (by omega)).symm
  · rw [hgg]
    exact (lo_stop (fun j h1 h2 => by rw [gS_far hc (by omega) (by omega)]; omega) (by omega)).symm
theorem t_M_follows {W H : Nat} {T : TS} {cc pp : Int32} {ff fs fl fa fx fy : Nat → Int32} (hT : TB W H 7 T) (hR : RM T cc pp ff fs fl fa fx fy) {o a p k r : Nat} (ho : o < T.1) (ha : a < 24) {s : Int} (hs : 1 ≤ s ∧ s ≤ 8) {fc fo : Nat → Int32} (hF : FR (fun p k => CO T o p k s) (nn T o) a a fc fo) (hp : p < nn T o) (hap : a ≤ p) (hr : r < 4) (hk : 1 ≤ k ∧ k ≤ 24) (hg : gg (fun p k => CO T o p k s) (nn T o) a r p < 1073741824) {post : Int32 → Unit → Prop} (g : post (bI (nxP (fun p k => CO T o p k s) (nn T o) a p r k)) ()) : wp_M_follows 900 900 3600 3600 4200 4200 fs ff fx fy fc fo (iI o) (iI p) (iI k) (iI r) (iI ((r - 1 : Nat) : Int)) (iI s) (iI ((a + nn T o : Nat) : Int)) post := by
  have h1 := TB_o hT ho
  have h3 := hR.2.2.1 o ho
  have hc : Hc (fun p k => CO T o p k s) := ⟨fun p k => CO_b hT ho p k hs, fun p => CO_1 T o p s⟩
  have hcost : ∀ Q : Int32 → Unit → Prop, Q (iI ((fun p k => CO T o p k s) p k)) () → wp_M_costOf 900 900 3600 3600 ff fs fx fy (iI o) (iI p) (iI k) (iI s) Q := fun Q q => t_M_costOf hT hR ho (by omega) hk hs q
  have hvo : vp_in (iI (o : Int)) 900 := iI_in (by omega) (by omega) (by omega)
  generalize (fun p k => CO T o p k s) = c at *
  unfold wp_M_follows
  simp (disch := omega) only [iI_lit, iI_neg, iI_add, iI_sub, iI_mul, iI_nI, iI_ofNat, iI_lt, iI_le, iI_eq, iI_cl, bI_0, bI_1, forall_eq, forall_eq_apply_imp_iff, not_true_eq_false, not_false_eq_true, ne_eq, Classical.not_not, true_imp_iff, false_imp_iff, and_true, true_and, Int.reduceEq, Int.reduceLT, Int.reduceLE, Int.reduceNeg, implies_true, Int.toNat_natCast]
  rw [h3.2.1, show ((T.2.1 (o + 1) - T.2.1 o : Nat)) = nn T o from rfl]
  generalize nn T o = n at *
  have hn : 4 ≤ n ∧ n ≤ 512 := by omega
  clear h1 h3
  simp (disch := omega) only [iI_lit, iI_neg, iI_add, iI_sub, iI_mul, iI_nI, iI_ofNat, iI_lt, iI_le, iI_eq, iI_cl, bI_0, bI_1, forall_eq, forall_eq_apply_imp_iff, not_true_eq_false, not_false_eq_true, ne_eq, Classical.not_not, true_imp_iff, false_imp_iff, and_true, true_and, Int.reduceEq, Int.reduceLT, Int.reduceLE, Int.reduceNeg, implies_true]
  have hcb := hc.1 p k
  unfold nxP at g
  have main : (p + k < n ∨ p + k = a + n) → wp_M_follows_J25 900 900 3600 3600 4200 4200 fs ff fx fy fc fo (iI o) (iI p) (iI k) (iI r) (iI ((r - 1 : Nat) : Int)) (iI s) (iI ((p : Int) + k)) post := by
    intro hmay
    obtain ⟨tn, tc, t1, t2, t3⟩ := hF (r - 1) (p + k) (by omega) (by omega) (by omega)
    obtain ⟨an, ac, a1, a2, a3⟩ := hF r p (by omega) (by omega) (by omega)
    have tb := RP_b t3 (by omega); have ab := RP_b a3 (by omega)
    unfold wp_M_follows_J25 wp_M_follows_J106
    refine call_i (fun Q q => hcost Q q) ?_
    simp (disch := omega) only [iI_lit, iI_neg, iI_add, iI_sub, iI_mul, iI_nI, iI_ofNat, iI_lt, iI_le, iI_eq, iI_cl, bI_0, bI_1, forall_eq, forall_eq_apply_imp_iff, not_true_eq_false, not_false_eq_true, ne_eq, Classical.not_not, true_imp_iff, false_imp_iff, and_true, true_and, Int.reduceEq, Int.reduceLT, Int.reduceLE, Int.reduceNeg, implies_true]
    rw [show (600 * ((r - 1 : Nat) : Int) + ((p : Int) + k)).toNat = 600 * (r - 1) + (p + k) by omega, show (600 * (r : Int) + (p : Int)).toNat = 600 * r + p by omega, t1, t2, a1, a2]
    have i1 : vp_in (iI (600 * ((r - 1 : Nat) : Int) + ((p : Int) + k))) 4200 := iI_in (by omega) (by omega) (by omega)
    have i2 : vp_in (iI (600 * (r : Int) + (p : Int))) 4200 := iI_in (by omega) (by omega) (by omega)
    simp (disch := omega) only [iI_lit, iI_neg, iI_add, iI_sub, iI_mul, iI_nI, iI_ofNat, iI_lt, iI_le, iI_eq, iI_cl, bI_0, bI_1, forall_eq, forall_eq_apply_imp_iff, not_true_eq_false, not_false_eq_true, ne_eq, Classical.not_not, true_imp_iff, false_imp_iff, and_true, true_and, Int.reduceEq, Int.reduceLT, Int.reduceLE, Int.reduceNeg, implies_true]
    have key : c p k ≠ -1 → ((tn + 1 = an ∧ tc + c p k = ac) ↔ 262144 + c p k + gg c n a (r - 1) (p + k) = gg c n a r p) := by
      intro hne
      by_cases hgt : gg c n a (r - 1) (p + k) < 1073741824
      · have hadd := RP_add (e := c p k) (k := (k : Int)) t3 (by omega) (by omega) (by omega) (by omega) hgt
        have hlt : 262144 + c p k + gg c n a (r - 1) (p + k) < 1073741824 := by
          have h4 := hadd; have h5 := t3; unfold RP at h4 h5; omega
        exact RP_eq hadd a3 (by omega) (by omega) hlt
      · have h5 := t3; have h6 := a3; unfold RP at h5 h6; omega
    refine ⟨fun z => ?_, fun z => ⟨i1, i2, fun z2 => ?_, fun z2 => ⟨i1, i2, fun z3 => ?_, fun z3 => ?_⟩⟩⟩
    · rwa [bI_f (fun w => w.2.2.2.1 z)] at g
    · rwa [bI_f (fun w => z2 ((key z).2 w.2.2.2.2).1)] at g
    · rwa [bI_f (fun w => z3 ((key z).2 w.2.2.2.2).2)] at g
    · rwa [bI_t ⟨hk.1, hk.2, hmay, z, (key z).1 ⟨z2, z3⟩⟩] at g
  refine ⟨hvo, fun z => main (by omega), fun z => ⟨fun z2 => main (by omega), fun z2 => ?_⟩⟩
  rwa [bI_f (fun w => by omega)] at g
