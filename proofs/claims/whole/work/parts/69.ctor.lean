-- printed by mkctor.py: the constructors
theorem okn {n B : Nat} (h : n ≤ B) (hB : B < 100000) {G : Nat → Prop} (g : G n) : ¬ iI (n : Int) < 0 ∧ (iI (n : Int)).toNatClampNeg ≤ B ∧ ∀ m : Nat, m = (iI (n : Int)).toNatClampNeg → G m := by
  have e : (iI (n : Int)).toNatClampNeg = n := by rw [iI_cl (by omega) (by omega), Int.toNat_natCast]
  refine ⟨?_, by rw [e]; exact h, fun m hm => by rw [hm, e]; exact g⟩
  rw [iI_z, iI_lt (by omega) (by omega) (by omega) (by omega)]
  omega
theorem okl {x : Int32} {n B : Nat} (hx : x.toNatClampNeg = n) (h0 : ¬ x < 0) (h : n ≤ B) {G : Nat → Prop} (g : G n) : ¬ x < 0 ∧ x.toNatClampNeg ≤ B ∧ ∀ m : Nat, m = x.toNatClampNeg → G m :=
  ⟨h0, by rw [hx]; exact h, fun m hm => by rw [hm, hx]; exact g⟩
def clm (a : Int) : Nat := (max 1 (min 16 a)).toNat
theorem clm_b (a : Int) : 1 ≤ clm a ∧ clm a ≤ 16 ∧ (clm a : Int) = max 1 (min 16 a) := by unfold clm; omega
theorem kl_16 : (16 : Int32) = iI 16 := iI_lit 16
theorem clm_i {a : Int} (ha : (-2147483648 ≤ a ∧ a < 2147483648)) : jmax (1 : Int32) (jmin (16 : Int32) (iI a)) = iI (clm a : Int) := by
  rw [kl_1, kl_16, jmin_i (by omega) (by omega) (by omega) (by omega), jmax_i (by omega) (by omega) (by omega) (by omega)]
  exact iI_e (clm_b a).2.2.symm
theorem iI_mn (a b : Nat) : iI (a : Int) * iI (b : Int) = iI ((a * b : Nat) : Int) := by rw [iI_mul, Int.natCast_mul]
theorem iI_an (a b : Nat) : iI (a : Int) + iI (b : Int) = iI ((a + b : Nat) : Int) := by rw [iI_add, Int.natCast_add]
theorem kn_1 : (1 : Int32) = iI ((1 : Nat) : Int) := iI_lit 1
theorem kn_7 : (7 : Int32) = iI ((7 : Nat) : Int) := iI_lit 7
theorem kn_24 : (24 : Int32) = iI ((24 : Nat) : Int) := iI_lit 24
theorem t_P_init {a b : Int} (ha : (-2147483648 ≤ a ∧ a < 2147483648)) (hb : (-2147483648 ≤ b ∧ b < 2147483648)) {post : (Int32 × Int32 × Nat × (Nat → Int32)) → Prop} (g : post (iI (clm a : Int), iI (clm b : Int), clm a * clm b, (fun _ => (0 : Int32)))) : wp_P_init (iI a) (iI b) post := by
  have h1 := clm_b a; have h2 := clm_b b
  unfold wp_P_init
  intro v1 e1 v2 e2
  rw [clm_i ha] at e1; rw [clm_i hb] at e2
  subst e1; subst e2
  rw [iI_mn]
  exact okn (Nat.mul_le_mul h1.2.1 h2.2.1) (by omega) g
def sd (W H : Nat) : Nat := W * (H + 1) + H * (W + 1)
theorem sd_b {W H : Nat} (hW : W ≤ 16) (hH : H ≤ 16) : sd W H ≤ 544 := by
  have h1 := Nat.mul_le_mul hW (show H + 1 ≤ 17 by omega)
  have h2 := Nat.mul_le_mul hH (show W + 1 ≤ 17 by omega)
  unfold sd; omega
theorem t_P_sides {W H : Nat} {post : Int32 → Unit → Prop} (g : post (iI (sd W H : Int)) ()) : wp_P_sides (iI (W : Int)) (iI (H : Int)) post := by
  unfold wp_P_sides
  rw [kn_1, iI_an, iI_an, iI_mn, iI_mn, iI_an]
  exact g
theorem t_U_init {W H : Nat} (hW : W ≤ 16) (hH : H ≤ 16) {post : (Int32 × Int32 × Nat × (Nat → Int32) × Nat × (Nat → Int32) × Nat × (Nat → Int32) × Nat × (Nat → Int32) × Nat × (Nat → Int32) × Nat × (Nat → Int32)) → Prop} (g : post ((0 : Int32), (0 : Int32), 7 * sd W H, (fun _ => (0 : Int32)), 7 * sd W H, (fun _ => (0 : Int32)), 7 * sd W H / 4 + 1, (fun _ => (0 : Int32)), 7 * sd W H / 4, (fun _ => (0 : Int32)), 7 * sd W H / 4, (fun _ => (0 : Int32)), W * H, (fun _ => (0 : Int32)))) : wp_U_init (iI (W : Int)) (iI (H : Int)) post := by
  have hs := sd_b hW hH
  unfold wp_U_init
  refine call_i (fun Q q => t_P_sides q) ?_
  intro x2 e2 x3 e3
  rw [kn_7, iI_mn] at e2
  subst e2
  rw [kl_4, iI_div (by omega) (by omega) (by omega) (by omega), Int.tdiv_eq_ediv_of_nonneg (by omega), show ((7 * sd W H : Nat) : Int) / 4 = ((7 * sd W H / 4 : Nat) : Int) by omega] at e3
  subst e3
  have e4 : iI ((7 * sd W H / 4 : Nat) : Int) + (1 : Int32) = iI ((7 * sd W H / 4 + 1 : Nat) : Int) := by rw [kn_1, iI_an]
  rw [e4, iI_mn]
  exact okn (by omega) (by omega) (okn (by omega) (by omega) (okn (by omega) (by omega) (okn (by omega) (by omega) (okn (by omega) (by omega) (okn (Nat.mul_le_mul hW hH) (by omega) g)))))
theorem t_G_init {S : Nat} (hS : S ≤ 544) {post : (Int32 × Int32 × Nat × (Nat → Int32) × Nat × (Nat → Int32) × Nat × (Nat → Int32) × Nat × (Nat → Int32) × Nat × (Nat → Int32) × Nat × (Nat → Int32) × Nat × (Nat → Int32) × Nat × (Nat → Int32)) → Prop} (g : post ((0 : Int32), (0 : Int32), S * 24, (fun _ => (0 : Int32)), S, (fun _ => (0 : Int32)), S, (fun _ => (0 : Int32)), S, (fun _ => (0 : Int32)), S, (fun _ => (0 : Int32)), S, (fun _ => (0 : Int32)), S, (fun _ => (0 : Int32)), S, (fun _ => (0 : Int32)))) : wp_G_init (iI (S : Int)) post := by
  unfold wp_G_init
  rw [kn_24, iI_mn]
  exact okn (by omega) (by omega) (okn (by omega) (by omega) (okn (by omega) (by omega) (okn (by omega) (by omega) (okn (by omega) (by omega) (okn (by omega) (by omega) (okn (by omega) (by omega) (okn (by omega) (by omega) g)))))))
theorem t_C_init {S : Nat} (hS : S ≤ 544) {post : (Int32 × Nat × (Nat → Int32) × Nat × (Nat → Int32) × Nat × (Nat → Int32) × Nat × (Nat → Int32) × Nat × (Nat → Int32) × Nat × (Nat → Int32) × Nat × (Nat → Int32) × Nat × (Nat → Int32)) → Prop} (g : post ((0 : Int32), 4, (fun _ => (0 : Int32)), 4, (fun _ => (0 : Int32)), S + 1, (fun _ => (0 : Int32)), S, (fun _ => (0 : Int32)), S, (fun _ => (0 : Int32)), S, (fun _ => (0 : Int32)), S, (fun _ => (0 : Int32)), S, (fun _ => (0 : Int32)))) : wp_C_init (iI (S : Int)) post := by
  unfold wp_C_init
  rw [kn_1, iI_an]
  exact okl (n := 4) (by decide) (by decide) (by omega) (okl (n := 4) (by decide) (by decide) (by omega) (okn (by omega) (by omega) (okn (by omega) (by omega) (okn (by omega) (by omega) (okn (by omega) (by omega) (okn (by omega) (by omega) (okn (by omega) (by omega) g)))))))
theorem t_O_init {a b : Int} (ha : (-2147483648 ≤ a ∧ a < 2147483648)) (hb : (-2147483648 ≤ b ∧ b < 2147483648)) {post : (Int32 × Int32 × Nat × (Nat → Int32) × Int32 × Int32 × Nat × (Nat → Int32) × Nat × (Nat → Int32) × Nat × (Nat → Int32) × Nat × (Nat → Int32) × Nat × (Nat → Int32) × Nat × (Nat → Int32) × Int32 × Int32 × Nat × (Nat → Int32) × Nat × (Nat → Int32) × Nat × (Nat → Int32) × Nat × (Nat → Int32) × Nat × (Nat → Int32) × Nat × (Nat → Int32) × Nat × (Nat → Int32) × Nat × (Nat → Int32) × Int32 × Nat × (Nat → Int32) × Nat × (Nat → Int32) × Nat × (Nat → Int32) × Nat × (Nat → Int32) × Nat × (Nat → Int32) × Nat × (Nat → Int32) × Nat × (Nat → Int32) × Nat × (Nat → Int32)) → Prop} (g : post (iI ((clm a) : Int), iI ((clm b) : Int), (clm a) * (clm b), (fun _ => (0 : Int32)), (0 : Int32), (0 : Int32), 7 * (sd (clm a) (clm b)), (fun _ => (0 : Int32)), 7 * (sd (clm a) (clm b)), (fun _ => (0 : Int32)), 7 * (sd (clm a) (clm b)) / 4 + 1, (fun _ => (0 : Int32)), 7 * (sd (clm a) (clm b)) / 4, (fun _ => (0 : Int32)), 7 * (sd (clm a) (clm b)) / 4, (fun _ => (0 : Int32)), (clm a) * (clm b), (fun _ => (0 : Int32)), (0 : Int32), (0 : Int32), (sd (clm a) (clm b)) * 24, (fun _ => (0 : Int32)), (sd (clm a) (clm b)), (fun _ => (0 : Int32)), (sd (clm a) (clm b)), (fun _ => (0 : Int32)), (sd (clm a) (clm b)), (fun _ => (0 : Int32)), (sd (clm a) (clm b)), (fun _ => (0 : Int32)), (sd (clm a) (clm b)), (fun _ => (0 : Int32)), (sd (clm a) (clm b)), (fun _ => (0 : Int32)), (sd (clm a) (clm b)), (fun _ => (0 : Int32)), (0 : Int32), 4, (fun _ => (0 : Int32)), 4, (fun _ => (0 : Int32)), (sd (clm a) (clm b)) + 1, (fun _ => (0 : Int32)), (sd (clm a) (clm b)), (fun _ => (0 : Int32)), (sd (clm a) (clm b)), (fun _ => (0 : Int32)), (sd (clm a) (clm b)), (fun _ => (0 : Int32)), (sd (clm a) (clm b)), (fun _ => (0 : Int32)), (sd (clm a) (clm b)), (fun _ => (0 : Int32)))) : wp_O_init (iI a) (iI b) post := by
  have h1 := clm_b a; have h2 := clm_b b
  have hs := sd_b h1.2.1 h2.2.1
  unfold wp_O_init
  refine ⟨fun u => u = (iI ((clm a) : Int), iI ((clm b) : Int), (clm a) * (clm b), (fun _ => (0 : Int32))), t_P_init ha hb rfl, ?_⟩
  rintro v1_0 v1_1 v1_2 v1_3 hu
  simp only [Prod.mk.injEq] at hu
  obtain ⟨rfl, rfl, rfl, rfl⟩ := hu
  refine ⟨fun u => u = ((0 : Int32), (0 : Int32), 7 * (sd (clm a) (clm b)), (fun _ => (0 : Int32)), 7 * (sd (clm a) (clm b)), (fun _ => (0 : Int32)), 7 * (sd (clm a) (clm b)) / 4 + 1, (fun _ => (0 : Int32)), 7 * (sd (clm a) (clm b)) / 4, (fun _ => (0 : Int32)), 7 * (sd (clm a) (clm b)) / 4, (fun _ => (0 : Int32)), (clm a) * (clm b), (fun _ => (0 : Int32))), t_U_init h1.2.1 h2.2.1 rfl, ?_⟩
  rintro v2_0 v2_1 v2_2 v2_3 v2_4 v2_5 v2_6 v2_7 v2_8 v2_9 v2_10 v2_11 v2_12 v2_13 hu
  simp only [Prod.mk.injEq] at hu
  obtain ⟨rfl, rfl, rfl, rfl, rfl, rfl, rfl, rfl, rfl, rfl, rfl, rfl, rfl, rfl⟩ := hu
  refine call_i (fun Q q => t_P_sides q) ?_
  refine ⟨fun u => u = ((0 : Int32), (0 : Int32), (sd (clm a) (clm b)) * 24, (fun _ => (0 : Int32)), (sd (clm a) (clm b)), (fun _ => (0 : Int32)), (sd (clm a) (clm b)), (fun _ => (0 : Int32)), (sd (clm a) (clm b)), (fun _ => (0 : Int32)), (sd (clm a) (clm b)), (fun _ => (0 : Int32)), (sd (clm a) (clm b)), (fun _ => (0 : Int32)), (sd (clm a) (clm b)), (fun _ => (0 : Int32)), (sd (clm a) (clm b)), (fun _ => (0 : Int32))), t_G_init hs rfl, ?_⟩
  rintro v3_0 v3_1 v3_2 v3_3 v3_4 v3_5 v3_6 v3_7 v3_8 v3_9 v3_10 v3_11 v3_12 v3_13 v3_14 v3_15 v3_16 v3_17 hu
  simp only [Prod.mk.injEq] at hu
  obtain ⟨rfl, rfl, rfl, rfl, rfl, rfl, rfl, rfl, rfl, rfl, rfl, rfl, rfl, rfl, rfl, rfl, rfl, rfl⟩ := hu
  refine call_i (fun Q q => t_P_sides q) ?_
  refine ⟨fun u => u = ((0 : Int32), 4, (fun _ => (0 : Int32)), 4, (fun _ => (0 : Int32)), (sd (clm a) (clm b)) + 1, (fun _ => (0 : Int32)), (sd (clm a) (clm b)), (fun _ => (0 : Int32)), (sd (clm a) (clm b)), (fun _ => (0 : Int32)), (sd (clm a) (clm b)), (fun _ => (0 : Int32)), (sd (clm a) (clm b)), (fun _ => (0 : Int32)), (sd (clm a) (clm b)), (fun _ => (0 : Int32))), t_C_init hs rfl, ?_⟩
  rintro v4_0 v4_1 v4_2 v4_3 v4_4 v4_5 v4_6 v4_7 v4_8 v4_9 v4_10 v4_11 v4_12 v4_13 v4_14 v4_15 v4_16 hu
  simp only [Prod.mk.injEq] at hu
  obtain ⟨rfl, rfl, rfl, rfl, rfl, rfl, rfl, rfl, rfl, rfl, rfl, rfl, rfl, rfl, rfl, rfl, rfl⟩ := hu
  exact g
set_option maxRecDepth 10000 in
theorem t_M_init {a b : Int} (ha : (-2147483648 ≤ a ∧ a < 2147483648)) (hb : (-2147483648 ≤ b ∧ b < 2147483648)) {post : (Int32 × Int32 × Int32 × Int32 × Int32 × Int32 × Int32 × Int32 × Int32 × Int32 × Int32 × Int32 × Int32 × Int32 × Nat × (Nat → Int32) × Nat × (Nat → Int32) × Nat × (Nat → Int32) × Nat × (Nat → Int32) × Nat × (Nat → Int32) × Nat × (Nat → Int32) × Nat × (Nat → Int32) × Nat × (Nat → Int32) × Nat × (Nat → Int32) × Nat × (Nat → Int32) × Nat × (Nat → Int32) × Nat × (Nat → Int32) × Nat × (Nat → Int32) × Nat × (Nat → Int32) × Nat × (Nat → Int32) × Nat × (Nat → Int32) × Nat × (Nat → Int32) × Nat × (Nat → Int32)) → Prop} (g : post ((0 : Int32), iI ((clm a) : Int), iI ((clm b) : Int), (0 : Int32), (0 : Int32), (0 : Int32), (0 : Int32), (0 : Int32), (0 : Int32), (0 : Int32), (0 : Int32), (0 : Int32), (0 : Int32), (0 : Int32), 256, (fun _ => (0 : Int32)), 900, (fun _ => (0 : Int32)), 900, (fun _ => (0 : Int32)), 900, (fun _ => (0 : Int32)), 900, (fun _ => (0 : Int32)), 3600, (fun _ => (0 : Int32)), 3600, (fun _ => (0 : Int32)), 256, (fun _ => (0 : Int32)), 512, (fun _ => (0 : Int32)), 4200, (fun _ => (0 : Int32)), 4200, (fun _ => (0 : Int32)), 512, (fun _ => (0 : Int32)), 512, (fun _ => (0 : Int32)), 512, (fun _ => (0 : Int32)), 4, (fun _ => (0 : Int32)), 4, (fun _ => (0 : Int32)), 520, (fun _ => (0 : Int32)), 3600, (fun _ => (0 : Int32)))) : wp_M_init (iI a) (iI b) post := by
  have h1 := clm_b a; have h2 := clm_b b
  unfold wp_M_init
  refine okl (n := 256) (by decide) (by decide) (by omega) ?_
  refine okl (n := 900) (by decide) (by decide) (by omega) ?_
  refine okl (n := 900) (by decide) (by decide) (by omega) ?_
  refine okl (n := 900) (by decide) (by decide) (by omega) ?_
  refine okl (n := 900) (by decide) (by decide) (by omega) ?_
  refine okl (n := 3600) (by decide) (by decide) (by omega) ?_
  refine okl (n := 3600) (by decide) (by decide) (by omega) ?_
  refine okl (n := 256) (by decide) (by decide) (by omega) ?_
  refine okl (n := 512) (by decide) (by decide) (by omega) ?_
  refine okl (n := 4200) (by decide) (by decide) (by omega) ?_
  refine okl (n := 4200) (by decide) (by decide) (by omega) ?_
  refine okl (n := 512) (by decide) (by decide) (by omega) ?_
  refine okl (n := 512) (by decide) (by decide) (by omega) ?_
  refine okl (n := 512) (by decide) (by decide) (by omega) ?_
  refine okl (n := 4) (by decide) (by decide) (by omega) ?_
  refine okl (n := 4) (by decide) (by decide) (by omega) ?_
  refine okl (n := 520) (by decide) (by decide) (by omega) ?_
  refine okl (n := 3600) (by decide) (by decide) (by omega) ?_
  rw [show ((1 : Int32) ≤ iI a) = (1 ≤ a) by rw [kl_1]; exact iI_le (by omega) (by omega) (by omega) (by omega), show (iI a ≤ (16 : Int32)) = (a ≤ 16) by rw [kl_16]; exact iI_le (by omega) (by omega) (by omega) (by omega), show ((1 : Int32) ≤ iI b) = (1 ≤ b) by rw [kl_1]; exact iI_le (by omega) (by omega) (by omega) (by omega), show (iI b ≤ (16 : Int32)) = (b ≤ 16) by rw [kl_16]; exact iI_le (by omega) (by omega) (by omega) (by omega)]
  refine ⟨fun c1 => ⟨fun c2 => ⟨fun c3 => ⟨fun c4 => ?_, fun c4 => ?_⟩, fun c3 => ?_⟩, fun c2 => ⟨fun c3 => ⟨fun c4 => ?_, fun c4 => ?_⟩, fun c3 => ?_⟩⟩, fun c1 => ⟨fun c3 => ⟨fun c4 => ?_, fun c4 => ?_⟩, fun c3 => ?_⟩⟩
  · have e1 : iI ((clm a) : Int) = iI a := iI_e (by omega)
    have e2 : iI ((clm b) : Int) = iI b := iI_e (by omega)
    rw [e1, e2] at g
    exact g
  · have e1 : iI ((clm a) : Int) = iI a := iI_e (by omega)
    have e2 : iI ((clm b) : Int) = (16 : Int32) := by rw [kl_16]; exact iI_e (by omega)
    rw [e1, e2] at g
    exact g
  · have e1 : iI ((clm a) : Int) = iI a := iI_e (by omega)
    have e2 : iI ((clm b) : Int) = (1 : Int32) := by rw [kl_1]; exact iI_e (by omega)
    rw [e1, e2] at g
    exact g
  · have e1 : iI ((clm a) : Int) = (16 : Int32) := by rw [kl_16]; exact iI_e (by omega)
    have e2 : iI ((clm b) : Int) = iI b := iI_e (by omega)
    rw [e1, e2] at g
    exact g
  · have e1 : iI ((clm a) : Int) = (16 : Int32) := by rw [kl_16]; exact iI_e (by omega)
    have e2 : iI ((clm b) : Int) = (16 : Int32) := by rw [kl_16]; exact iI_e (by omega)
    rw [e1, e2] at g
    exact g
  · have e1 : iI ((clm a) : Int) = (16 : Int32) := by rw [kl_16]; exact iI_e (by omega)
    have e2 : iI ((clm b) : Int) = (1 : Int32) := by rw [kl_1]; exact iI_e (by omega)
    rw [e1, e2] at g
    exact g
  · have e1 : iI ((clm a) : Int) = (1 : Int32) := by rw [kl_1]; exact iI_e (by omega)
    have e2 : iI ((clm b) : Int) = iI b := iI_e (by omega)
    rw [e1, e2] at g
    exact g
  · have e1 : iI ((clm a) : Int) = (1 : Int32) := by rw [kl_1]; exact iI_e (by omega)
    have e2 : iI ((clm b) : Int) = (16 : Int32) := by rw [kl_16]; exact iI_e (by omega)
    rw [e1, e2] at g
    exact g
  · have e1 : iI ((clm a) : Int) = (1 : Int32) := by rw [kl_1]; exact iI_e (by omega)
    have e2 : iI ((clm b) : Int) = (1 : Int32) := by rw [kl_1]; exact iI_e (by omega)
    rw [e1, e2] at g
    exact g
