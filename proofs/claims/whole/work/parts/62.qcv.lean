-- questions about a curve
theorem o_shr1 {a : Int} (h : 0 ≤ a ∧ a < 8) : ((iI a >>> ((1 : Int32) &&& 31)) &&& (3 : Int32)) = iI (a / 2) := by
  have h2 : a = 0 ∨ a = 1 ∨ a = 2 ∨ a = 3 ∨ a = 4 ∨ a = 5 ∨ a = 6 ∨ a = 7 := by omega
  rcases h2 with rfl | rfl | rfl | rfl | rfl | rfl | rfl | rfl <;> (rw [iI_d, iI_d]; decide)
noncomputable def oV (X Y : Nat → Int) (N f m : Nat) (p q : Int) : Int := cI (q % 2 = 0) (hnd X N f m p (q / 2).toNat) (hnd Y N f m p (q / 2).toNat)
noncomputable def oPV (X : Nat → Int) (N f m : Nat) (p t : Int) : Int := cI (p = 0) (shv (hnd X N f m p) t) (cub (hnd X N f m p) t)
noncomputable def plV (X Y : Nat → Int) (N f m : Nat) (p t ax : Int) : Int := cI (ax = 0) (oPV X N f m p t) (oPV Y N f m p t)
theorem pV_b {X : Nat → Int} {N : Nat} (h : ∀ j, 0 ≤ X j ∧ X j ≤ 16) (f m : Nat) {p t : Int} (hp : 0 ≤ p ∧ p ≤ 64) (ht : 0 ≤ t ∧ t ≤ 8) : -10000000 ≤ oPV X N f m p t ∧ oPV X N f m p t ≤ 10000000 := by
  have hb := fun i => hnd_b (X := X) (N := N) h f m hp i
  unfold oPV
  exact cI_s (P := fun z => -10000000 ≤ z ∧ z ≤ 10000000) (fun _ => shv_b hb ht) (fun _ => cub_b hb ht)
theorem t_C_ordinate {X Y : Nat → Int} {N S f m k : Nat} {p q : Int} (hG : PG X Y N) (hS : N ≤ S ∧ S < 10000) {ff fl fp fx fy hx hy : Nat → Int32} (hf : ∀ j, j < N → fx j = iI (X j) ∧ fy j = iI (Y j)) (hk : k < S) (h1 : ff k = iI (f : Int) ∧ fl k = iI (m : Int) ∧ fp k = iI p) (hfN : f < N) (hm : 1 ≤ m ∧ m ≤ 6) (hp : 0 ≤ p ∧ p ≤ 64) (hq : 0 ≤ q ∧ q < 8) {post : Int32 → ((Nat → Int32) × (Nat → Int32)) → Prop} (g : ∀ a b, post (iI (oV X Y N f m p q)) (a, b)) : wp_C_ordinate S S S S 4 S 4 ff fl fp (iI N) fx hx fy hy (iI k) (iI q) post := by
  have hv : vp_in (iI (k : Int)) S := iI_in (by omega) (by omega) (by omega)
  unfold wp_C_ordinate
  rw [iI_cl (by omega) (by omega), Int.toNat_natCast, h1.1, h1.2.1, h1.2.2]
  refine ⟨hv, hv, hv, fun u => HA (hnd X N f m p) u.1 ∧ HA (hnd Y N f m p) u.2, t_C_layHand hG hS hf hfN hm hp (fun a b h1 h2 => ⟨h1, h2⟩), ?_⟩
  rintro a b ⟨ha, hb⟩
  have ha : HA (hnd X N f m p) a := ha
  have hb : HA (hnd Y N f m p) b := hb
  simp only [forall_eq]
  rw [o_shr1 hq]
  obtain ⟨i, hi⟩ : ∃ i : Nat, i = (q / 2).toNat := ⟨_, rfl⟩
  simp (disch := omega) only [iI_lit, iI_neg, iI_add, iI_sub, iI_mul, iI_nI, iI_ofNat, iI_lt, iI_le, iI_eq, iI_cl, bI_0, bI_1, forall_eq, forall_eq_apply_imp_iff, not_true_eq_false, not_false_eq_true, ne_eq, Classical.not_not, true_imp_iff, false_imp_iff, and_true, true_and, Int.reduceEq, Int.reduceLT, Int.reduceLE, Int.reduceNeg, implies_true, iI_and1]
  rw [← hi, ha i (by omega), hb i (by omega)]
  have g := g a b
  unfold oV at g
  rw [← hi] at g
  refine ⟨fun w => ⟨v4 (by omega), ?_⟩, fun w => ⟨v4 (by omega), ?_⟩⟩
  · rwa [cI_f w] at g
  · rwa [cI_t w] at g
theorem t_C_placeAt {X Y : Nat → Int} {N S f m k : Nat} {p t ax : Int} (hG : PG X Y N) (hS : N ≤ S ∧ S < 10000) {ff fl fp fx fy hx hy : Nat → Int32} (hf : ∀ j, j < N → fx j = iI (X j) ∧ fy j = iI (Y j)) (hk : k < S) (h1 : ff k = iI (f : Int) ∧ fl k = iI (m : Int) ∧ fp k = iI p) (hfN : f < N) (hm : 1 ≤ m ∧ m ≤ 6) (hp : 0 ≤ p ∧ p ≤ 64) (ht : 0 ≤ t ∧ t ≤ 8) (hax : 0 ≤ ax ∧ ax ≤ 1) {post : Int32 → ((Nat → Int32) × (Nat → Int32)) → Prop} (g : ∀ a b, post (iI (plV X Y N f m p t ax)) (a, b)) : wp_C_placeAt S S S S 4 S 4 ff fl fp (iI N) fx hx fy hy (iI k) (iI t) (iI ax) post := by
  have hv : vp_in (iI (k : Int)) S := iI_in (by omega) (by omega) (by omega)
  unfold wp_C_placeAt
  rw [iI_cl (by omega) (by omega), Int.toNat_natCast, h1.1, h1.2.1, h1.2.2]
  refine ⟨hv, hv, hv, fun u => HA (hnd X N f m p) u.1 ∧ HA (hnd Y N f m p) u.2, t_C_layHand hG hS hf hfN hm hp (fun a b h1 h2 => ⟨h1, h2⟩), ?_⟩
  rintro a b ⟨ha, hb⟩
  have ha : HA (hnd X N f m p) a := ha
  have hb : HA (hnd Y N f m p) b := hb
  have g := g a b
  unfold plV oPV at g
  simp (disch := omega) only [iI_lit, iI_neg, iI_add, iI_sub, iI_mul, iI_nI, iI_ofNat, iI_lt, iI_le, iI_eq, iI_cl, bI_0, bI_1, forall_eq, forall_eq_apply_imp_iff, not_true_eq_false, not_false_eq_true, ne_eq, Classical.not_not, true_imp_iff, false_imp_iff, and_true, true_and, Int.reduceEq, Int.reduceLT, Int.reduceLE, Int.reduceNeg, implies_true]
  refine ⟨fun w => ⟨hv, fun w2 => ?_, fun w2 => ?_⟩, fun w => ⟨hv, fun w2 => ?_, fun w2 => ?_⟩⟩
  · rw [cI_f w, cI_f w2] at g; exact call_i (fun Q q => t_C_cubicAt hb q) g
  · rw [cI_f w, cI_t w2] at g; exact call_i (fun Q q => t_C_sharpAt hb ht q) g
  · rw [cI_t w, cI_f w2] at g; exact call_i (fun Q q => t_C_cubicAt ha q) g
  · rw [cI_t w, cI_t w2] at g; exact call_i (fun Q q => t_C_sharpAt ha ht q) g
theorem t_C_isNear {X Y : Nat → Int} {N S f m k : Nat} {p t e : Int} (hG : PG X Y N) (hS : N ≤ S ∧ S < 10000) {ff fl fp fx fy hx hy : Nat → Int32} (hf : ∀ j, j < N → fx j = iI (X j) ∧ fy j = iI (Y j)) (hk : k < S) (h1 : ff k = iI (f : Int) ∧ fl k = iI (m : Int) ∧ fp k = iI p) (hfN : f < N) (hm : 1 ≤ m ∧ m ≤ 6) (hp : 0 ≤ p ∧ p ≤ 64) (ht : 0 ≤ t ∧ t ≤ 8) (he : 0 ≤ e ∧ e ≤ 64) {post : Int32 → ((Nat → Int32) × (Nat → Int32)) → Prop} (g : ∀ a b, post (bI (NRl X Y N f m (oPV X N f m p t) (oPV Y N f m p t) e)) (a, b)) : wp_C_isNear S S S S 4 S 4 ff fl fp (iI N) fx hx fy hy (iI k) (iI t) (iI e) post := by
  have hv : vp_in (iI (k : Int)) S := iI_in (by omega) (by omega) (by omega)
  have b1 := pV_b (X := X) (N := N) (fun j => ⟨(hG.2.1 j).1, (hG.2.1 j).2.1⟩) f m hp ht
  have b2 := pV_b (X := Y) (N := N) (fun j => ⟨(hG.2.1 j).2.2.1, (hG.2.1 j).2.2.2⟩) f m hp ht
  unfold wp_C_isNear
  rw [iI_z, kl_1]
  refine ⟨hv, hv, fun r _ => r = iI (oPV X N f m p t), t_C_placeAt hG hS hf hk h1 hfN hm hp ht (by omega) (fun a b => iI_e (cI_t rfl)), ?_⟩
  rintro r a b hr
  have hr : r = _ := hr; subst hr
  refine ⟨fun r _ => r = iI (oPV Y N f m p t), t_C_placeAt hG hS hf hk h1 hfN hm hp ht (by omega) (fun a b => iI_e (cI_f (by omega))), ?_⟩
  rintro r a b hr
  have hr : r = _ := hr; subst hr
  rw [iI_cl (by omega) (by omega), Int.toNat_natCast, h1.1, h1.2.1]
  refine call_i (fun Q q => t_C_nearLines hG hS hf hfN hm (by omega) (by omega) he q) ?_
  exact ⟨bI_01 _, g a b⟩
theorem t_M_setCurve {N : Nat} {X Y : Nat → Int} {of : Int32} {fk ff fs fx fy px py gf gm' gs : Nat → Int32} (hG : PG X Y N) (hX : CRX N X of fk ff fs fx) (hY : CRY N Y of fk ff fs fy) {f m k : Nat} {p : Int} (hk : k < 512) (h1 : gf k = iI (f : Int) ∧ gm' k = iI (m : Int) ∧ gs k = iI p) (hfb : f < N) (hm : 1 ≤ m ∧ m ≤ 6) (hp : 0 ≤ p ∧ p ≤ 64) {post : ((Nat → Int32) × (Nat → Int32)) → Prop} (g : ∀ a b, HA (hnd X N f m p) a → HA (hnd Y N f m p) b → post (a, b)) : wp_M_setCurve 512 512 512 512 900 900 3600 4 3600 4 of (iI N) gf gm' gs fk ff fs fx px fy py (iI k) post := by
  have hN := hG.1
  have hv : vp_in (iI (k : Int)) 512 := iI_in (by omega) (by omega) (by omega)
  unfold wp_M_setCurve
  rw [iI_cl (by omega) (by omega), Int.toNat_natCast, h1.1, h1.2.1, h1.2.2]
  refine ⟨hv, hv, hv, fun u => HA (hnd X N f m p) u.1 ∧ HA (hnd Y N f m p) u.2, t_M_set hG hX hY (by omega) hm hp (fun a b h1 h2 => ⟨h1, h2⟩), ?_⟩
  rintro a b ⟨ha, hb⟩
  exact g a b ha hb
