-- what ties the class's state to the reference's
noncomputable def pgX (T : TS) (o : Nat) (s : Int) : Nat → Int := pX T o (fndK T o s) (fnd T o s)
noncomputable def pgY (T : TS) (o : Nat) (s : Int) : Nat → Int := pY T o (fndK T o s) (fnd T o s)
def AA (W H : Nat) (T : TS) (a : Prop) (mp : Int32) (fl fb fa fx fy gf gs gl ga gx gy : Nat → Int32) : Prop := a → TB W H 7 T ∧ RC T (iI T.1) fl fb fa fx fy ∧ RM T (iI T.1) mp gf gs gl ga gx gy
def BB (T : TS) (a : Prop) (o : Nat) (s : Int) (b : Prop) (mof mc mco : Int32) (gp sx sy sa st fk : Nat → Int32) : Prop := b → a ∧ (o < T.1 ∧ 1 ≤ s ∧ s ≤ 8) ∧ mof = iI (o : Int) ∧ mc = iI ((fnd T o s : Nat) : Int) ∧ mco = iI (fndC T o s) ∧ oGX (pgX T o s) (pgY T o s) (fnd T o s) (fndK T o s) gp sx sy sa st ∧ ∀ j, j < fnd T o s → fk j = iI ((fndK T o s j : Nat) : Int)
def oCC (T : TS) (o : Nat) (s : Int) (b : Prop) (sh e : Int) (c : Prop) (cc : Int32) (rf rl rp mf mm ms : Nat → Int32) : Prop := c → b ∧ cc = iI ((vN (pgX T o s) (pgY T o s) (fnd T o s) sh e : Nat) : Int) ∧ VR (pgX T o s) (pgY T o s) (fnd T o s) sh e (vN (pgX T o s) (pgY T o s) (fnd T o s) sh e) rf rl rp ∧ VR (pgX T o s) (pgY T o s) (fnd T o s) sh e (vN (pgX T o s) (pgY T o s) (fnd T o s) sh e) mf mm ms
theorem oBX {W H S : Nat} {T : TS} {a b : Prop} {o : Nat} {s : Int} {mp mof mc mco : Int32} {fl fb fa fx fy gf gs gl ga gx gy gp sx sy sa st fk : Nat → Int32} (hS : S = W * (H + 1) + H * (W + 1)) (hSb : S < 600) (hA : AA W H T a mp fl fb fa fx fy gf gs gl ga gx gy) (hB : BB T a o s b mof mc mco gp sx sy sa st fk) : b → PG (pgX T o s) (pgY T o s) (fnd T o s) ∧ (fnd T o s ≤ S ∧ S < 10000) ∧ oGX (pgX T o s) (pgY T o s) (fnd T o s) (fndK T o s) gp sx sy sa st := by
  intro hb
  obtain ⟨ha, ⟨ho, hs⟩, -, -, -, hG, -⟩ := hB hb
  have hT := (hA ha).1
  have h1 := TB_o hT ho
  have h2 := fnd_s hT ho hs
  exact ⟨pXY_G hT ho _ (by omega), by omega, hG⟩
theorem oBM {W H : Nat} {T : TS} {a b : Prop} {o : Nat} {s : Int} {mp mof mc mco : Int32} {fl fb fa fx fy gf gs gl ga gx gy gp sx sy sa st fk : Nat → Int32} (hA : AA W H T a mp fl fb fa fx fy gf gs gl ga gx gy) (hB : BB T a o s b mof mc mco gp sx sy sa st fk) : b → mc = iI ((fnd T o s : Nat) : Int) ∧ GM (pgX T o s) (pgY T o s) (fnd T o s) (fndK T o s) mof fk gf gs gx gy := by
  intro hb
  obtain ⟨ha, ⟨ho, hs⟩, h3, h4, -, hG, hk⟩ := hB hb
  obtain ⟨hT, hR, hM⟩ := hA ha
  have h1 := TB_o hT ho
  have h2 := fnd_s hT ho hs
  have hN : 3 ≤ fnd T o s ∧ fnd T o s ≤ 512 := by omega
  have hc := CRX_of hT hM ho hN (fun j hj => ⟨hk j hj, h2.2.2 j hj⟩)
  rw [h3]
  exact ⟨h4, pXY_G hT ho _ hN, hc.1, hc.2, hk⟩
theorem oCX {W H S : Nat} {T : TS} {a b c : Prop} {o : Nat} {s sh e : Int} {mp mof mc mco cc : Int32} {fl fb fa fx fy gf gs gl ga gx gy gp sx sy sa st fk rf rl rp mf mm ms : Nat → Int32} (hS : S = W * (H + 1) + H * (W + 1)) (hSb : S < 600) (hA : AA W H T a mp fl fb fa fx fy gf gs gl ga gx gy) (hB : BB T a o s b mof mc mco gp sx sy sa st fk) (hC : oCC T o s b sh e c cc rf rl rp mf mm ms) : c → b ∧ PG (pgX T o s) (pgY T o s) (fnd T o s) ∧ (fnd T o s ≤ S ∧ S < 10000) ∧ (∀ j, j < fnd T o s → sx j = iI (pgX T o s j) ∧ sy j = iI (pgY T o s j)) ∧ VR (pgX T o s) (pgY T o s) (fnd T o s) sh e (vN (pgX T o s) (pgY T o s) (fnd T o s) sh e) rf rl rp := by
  intro hc
  obtain ⟨hb, h1, h2, h3⟩ := hC hc
  obtain ⟨g1, g2, g3⟩ := oBX hS hSb hA hB hb
  exact ⟨hb, g1, g2, fun j hj => ⟨(g3 j hj).2.1, (g3 j hj).2.2.1⟩, h2⟩
theorem oCM2 {W H : Nat} {T : TS} {a b c : Prop} {o : Nat} {s sh e : Int} {mp mof mc mco cc : Int32} {fl fb fa fx fy gf gs gl ga gx gy gp sx sy sa st fk rf rl rp mf mm ms : Nat → Int32} (hA : AA W H T a mp fl fb fa fx fy gf gs gl ga gx gy) (hB : BB T a o s b mof mc mco gp sx sy sa st fk) (hC : oCC T o s b sh e c cc rf rl rp mf mm ms) : c → oCM (pgX T o s) (pgY T o s) (fnd T o s) sh e mof mc cc fk gf gs gx gy mf mm ms := by
  intro hc
  obtain ⟨hb, h1, h2, h3⟩ := hC hc
  obtain ⟨g1, g2, g3, g4, g5⟩ := oBM hA hB hb
  exact ⟨g1, h1, g2, g3, g4, h3⟩
theorem cIb {z a : Prop} : cI z (iI 0) (bI a) = bI (a ∧ ¬ z) := by
  by_cases hz : z
  · rw [cI_t hz, bI_f (fun w => w.2 hz)]
  · rw [cI_f hz]; exact bI_c ⟨fun w => ⟨w, hz⟩, fun w => w.1⟩
theorem cIn {z a : Prop} {n : Int} : cI z (iI 0) (iI (cI a n 0)) = iI (cI (a ∧ ¬ z) n 0) := by
  by_cases hz : z
  · rw [cI_t hz, cI_f (fun w => w.2 hz)]
  · rw [cI_f hz]; exact iI_e (cI_c ⟨fun w => ⟨w, hz⟩, fun w => w.1⟩)
theorem fin00 {v : Int} {fO : Nat → Int64} {J : Prop} (h : J) : (iI 0 = iI 0 → (¬ iI 0 = 0 → J) ∧ (iI 0 = 0 → vp_in (0 : Int32) 1 ∧ (lg_cmp ((oU 0 v fO) (0 : Int32).toNatClampNeg) ((iI v).toInt64) = 0 → J) ∧ (¬ lg_cmp ((oU 0 v fO) (0 : Int32).toNatClampNeg) ((iI v).toInt64) = 0 → False))) ∧ (¬ iI 0 = iI 0 → False) := by
  have := finq (w := 0) (v := v) (by omega) (fO := fO) h
  rwa [cI_t rfl] at this
theorem finN {w : Int} (hw : w ≠ 0 ∧ 0 ≤ w ∧ w ≤ 3) {f : Nat → Int64} {x : Int64} {J : Prop} (h : J) : (iI w = iI w → (¬ iI w = 0 → J) ∧ (iI w = 0 → vp_in (0 : Int32) 1 ∧ (lg_cmp (f (0 : Int32).toNatClampNeg) x = 0 → J) ∧ (¬ lg_cmp (f (0 : Int32).toNatClampNeg) x = 0 → False))) ∧ (¬ iI w = iI w → False) := by
  refine ⟨fun _ => ⟨fun _ => h, fun e => ?_⟩, fun n => n rfl⟩
  rw [iI_z, iI_eq (by omega) (by omega) (by omega) (by omega)] at e
  exact absurd e hw.1
theorem S_b {W H : Nat} (hW : 1 ≤ W ∧ W ≤ 16) (hH : 1 ≤ H ∧ H ≤ 16) : W * (H + 1) + H * (W + 1) < 600 := by
  have h1 := Nat.mul_le_mul hW.2 (show H + 1 ≤ 17 by omega)
  have h2 := Nat.mul_le_mul hH.2 (show W + 1 ≤ 17 by omega)
  omega
