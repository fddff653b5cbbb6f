-- what is asked of the numbers of a call, and what a call throws
theorem call_0 {wp : (Unit → Prop) → Prop} {G : Prop} (h : ∀ Q : Unit → Prop, Q () → wp Q) (g : G) : ∃ Q : Unit → Prop, wp Q ∧ ∀ _ : Unit, Q () → G := ⟨fun _ => True, h _ trivial, fun _ _ => g⟩
theorem rqT {a : Prop} (ha : a) {post : Unit → Prop} (g : post ()) : wp_O_requireTraced (bI a) post := by
  unfold wp_O_requireTraced
  rw [iI_z, bI_0]
  exact ⟨fun _ => g, fun h => h ha⟩
theorem tpT {a : Prop} (ha : ¬ a) : tp_O_requireTraced (bI a) "java/lang/IllegalStateException" := by
  unfold tp_O_requireTraced
  rw [iI_z, bI_0]
  exact ⟨fun h => h ha, fun _ => rfl⟩
theorem rqI {i n : Int} (hi : (-2147483648 ≤ i ∧ i < 2147483648)) (hn : (-2147483648 ≤ n ∧ n < 2147483648)) (h : 0 ≤ i ∧ i < n) {post : Unit → Prop} (g : post ()) : wp_O_requireIndex (iI i) (iI n) post := by
  unfold wp_O_requireIndex wp_O_requireIndex_J9
  simp (disch := omega) only [iI_lit, iI_neg, iI_add, iI_sub, iI_mul, iI_nI, iI_ofNat, iI_lt, iI_le, iI_eq, iI_cl, bI_0, bI_1, forall_eq, forall_eq_apply_imp_iff, not_true_eq_false, not_false_eq_true, ne_eq, Classical.not_not]
  exact ⟨fun w => by omega, fun _ => ⟨fun _ => g, fun w => by omega⟩⟩
theorem tpI {i n : Int} (hi : (-2147483648 ≤ i ∧ i < 2147483648)) (hn : (-2147483648 ≤ n ∧ n < 2147483648)) (h : ¬ (0 ≤ i ∧ i < n)) : tp_O_requireIndex (iI i) (iI n) "java/lang/IndexOutOfBoundsException" := by
  unfold tp_O_requireIndex tp_O_requireIndex_J9
  simp (disch := omega) only [iI_lit, iI_neg, iI_add, iI_sub, iI_mul, iI_nI, iI_ofNat, iI_lt, iI_le, iI_eq, iI_cl, bI_0, bI_1, forall_eq, forall_eq_apply_imp_iff, not_true_eq_false, not_false_eq_true, ne_eq, Classical.not_not]
  exact ⟨fun _ => trivial, fun _ => ⟨fun w => by omega, fun _ => trivial⟩⟩
theorem tpR {n a b : Int} (hn : (-2147483648 ≤ n ∧ n < 2147483648)) (ha : (-2147483648 ≤ a ∧ a < 2147483648)) (hb : (-2147483648 ≤ b ∧ b < 2147483648)) (h : ¬ (a ≤ n ∧ n ≤ b)) : tp_O_requireRange (iI n) (iI a) (iI b) "java/lang/IllegalArgumentException" := by
  unfold tp_O_requireRange tp_O_requireRange_J10
  simp (disch := omega) only [iI_lit, iI_neg, iI_add, iI_sub, iI_mul, iI_nI, iI_ofNat, iI_lt, iI_le, iI_eq, iI_cl, bI_0, bI_1, forall_eq, forall_eq_apply_imp_iff, not_true_eq_false, not_false_eq_true, ne_eq, Classical.not_not]
  exact ⟨fun _ => trivial, fun _ => ⟨fun w => by omega, fun _ => trivial⟩⟩
theorem rqS {W H : Nat} (hW : 1 ≤ W ∧ W ≤ 16) (hH : 1 ≤ H ∧ H ≤ 16) {x y : Int} (hx : (-2147483648 ≤ x ∧ x < 2147483648)) (hy : (-2147483648 ≤ y ∧ y < 2147483648)) (h : 0 ≤ x ∧ x < W ∧ 0 ≤ y ∧ y < H) {post : Unit → Prop} (g : post ()) : wp_O_requireSample (iI W) (iI H) (iI x) (iI y) post := by
  unfold wp_O_requireSample
  refine call_i (fun Q q => t_P_has (by omega) (by omega) hx hy q) ?_
  rw [iI_z, bI_0]
  exact ⟨fun _ => g, fun w => w h⟩
theorem tpS {W H : Nat} (hW : 1 ≤ W ∧ W ≤ 16) (hH : 1 ≤ H ∧ H ≤ 16) {x y : Int} (hx : (-2147483648 ≤ x ∧ x < 2147483648)) (hy : (-2147483648 ≤ y ∧ y < 2147483648)) (h : ¬ (0 ≤ x ∧ x < W ∧ 0 ≤ y ∧ y < H)) : tp_O_requireSample (iI W) (iI H) (iI x) (iI y) "java/lang/IndexOutOfBoundsException" := by
  unfold tp_O_requireSample
  refine call_i (fun Q q => t_P_has (by omega) (by omega) hx hy q) ?_
  rw [iI_z, bI_0]
  exact ⟨fun w => w h, fun _ => rfl⟩
theorem rqG {n : Int} (hn : (-2147483648 ≤ n ∧ n < 2147483648)) (h : n ≠ 0) {post : Unit → Prop} (g : post ()) : wp_O_requirePolygon (iI n) post := by
  unfold wp_O_requirePolygon
  simp (disch := omega) only [iI_lit, iI_neg, iI_add, iI_sub, iI_mul, iI_nI, iI_ofNat, iI_lt, iI_le, iI_eq, iI_cl, bI_0, bI_1, forall_eq, forall_eq_apply_imp_iff, not_true_eq_false, not_false_eq_true, ne_eq, Classical.not_not]
  exact ⟨fun _ => g, fun w => h w⟩
theorem tpG : tp_O_requirePolygon (iI 0) "java/lang/IllegalStateException" := by
  unfold tp_O_requirePolygon
  rw [iI_z]
  exact ⟨fun w => w rfl, fun _ => rfl⟩
theorem rqC {i n : Int} (hi : (-2147483648 ≤ i ∧ i < 2147483648)) (hn : (-2147483648 ≤ n ∧ n < 2147483648)) (h : 0 ≤ i ∧ i < n) {post : Unit → Prop} (g : post ()) : wp_O_requireCurve (iI n) (iI i) post := by
  unfold wp_O_requireCurve
  simp (disch := omega) only [iI_lit, iI_neg, iI_add, iI_sub, iI_mul, iI_nI, iI_ofNat, iI_lt, iI_le, iI_eq, iI_cl, bI_0, bI_1, forall_eq, forall_eq_apply_imp_iff, not_true_eq_false, not_false_eq_true, ne_eq, Classical.not_not]
  exact ⟨fun _ => call_0 (fun Q q => rqI hi hn h q) g, fun w => by omega⟩
theorem tpC0 (i : Int32) : tp_O_requireCurve (iI 0) i "java/lang/IllegalStateException" := by
  unfold tp_O_requireCurve
  rw [iI_z]
  exact ⟨fun w => absurd rfl w, fun _ => rfl⟩
theorem tpC2 {i n : Int} (hi : (-2147483648 ≤ i ∧ i < 2147483648)) (hn : (-2147483648 ≤ n ∧ n < 2147483648)) (h0 : n ≠ 0) (h : ¬ (0 ≤ i ∧ i < n)) : tp_O_requireCurve (iI n) (iI i) "java/lang/IndexOutOfBoundsException" := by
  unfold tp_O_requireCurve
  simp (disch := omega) only [iI_lit, iI_neg, iI_add, iI_sub, iI_mul, iI_nI, iI_ofNat, iI_lt, iI_le, iI_eq, iI_cl, bI_0, bI_1, forall_eq, forall_eq_apply_imp_iff, not_true_eq_false, not_false_eq_true, ne_eq, Classical.not_not]
  exact ⟨fun _ => Or.inl (tpI hi hn h), fun w => absurd w h0⟩
theorem t_U_length {W H nb nl na nX nY : Nat} {T : TS} {c : Int32} {fl fb fa fx fy : Nat → Int32} (hK : KU W H nb nl na nX nY) (hT : TB W H 7 T) (hR : RC T c fl fb fa fx fy) {o : Nat} (ho : o < T.1) {post : Int32 → Unit → Prop} (g : post (iI ((nn T o : Nat) : Int)) ()) : wp_U_length nb fb (iI o) post := by
  have h1 := TB_o hT ho
  obtain ⟨k1, k2, k3, k4, k5, k6⟩ := hK
  unfold wp_U_length
  simp (disch := omega) only [iI_lit, iI_neg, iI_add, iI_sub, iI_mul, iI_nI, iI_ofNat, iI_lt, iI_le, iI_eq, iI_cl, bI_0, bI_1, forall_eq, forall_eq_apply_imp_iff, not_true_eq_false, not_false_eq_true, ne_eq, Classical.not_not]
  rw [show ((o : Int) + 1).toNat = o + 1 by omega, Int.toNat_natCast, hR.2.1 (o + 1) (by omega), hR.2.1 o (by omega), iI_sub, show ((T.2.1 (o + 1) : Nat) : Int) - ((T.2.1 o : Nat) : Int) = ((nn T o : Nat) : Int) by unfold nn; omega]
  exact ⟨iI_in (by omega) (by omega) (by omega), iI_in (by omega) (by omega) (by omega), g⟩
theorem rqP {W H nb nl na nX nY : Nat} {T : TS} {a : Prop} {fl fb fa fx fy : Nat → Int32} (hK : KU W H nb nl na nX nY) (ha : a) (hT : TB W H 7 T) (hR : RC T (iI T.1) fl fb fa fx fy) {o i : Nat} (ho : o < T.1) (hi : i < nn T o) {post : Unit → Prop} (g : post ()) : wp_O_requirePoint nb (iI T.1) (bI a) fb (iI o) (iI i) post := by
  have h1 := TB_o hT ho
  unfold wp_O_requirePoint
  exact call_0 (fun Q q => rqT ha q) (call_0 (fun Q q => rqI (by omega) (by omega) (by omega) q) (call_i (fun Q q => t_U_length hK hT hR ho q) (call_0 (fun Q q => rqI (by omega) (by omega) (by omega) q) g)))
theorem tpP1 {nb : Nat} {a : Prop} (ha : ¬ a) {c : Int32} {fb : Nat → Int32} {x y : Int32} : tp_O_requirePoint nb c (bI a) fb x y "java/lang/IllegalStateException" := Or.inl (tpT ha)
theorem tpP2 {W H nb nl na nX nY : Nat} {T : TS} {a : Prop} {fl fb fa fx fy : Nat → Int32} (hK : KU W H nb nl na nX nY) (ha : a) (hT : TB W H 7 T) (hR : RC T (iI T.1) fl fb fa fx fy) {p i : Int} (hp : (-2147483648 ≤ p ∧ p < 2147483648)) (hi : (-2147483648 ≤ i ∧ i < 2147483648)) (h : ¬ ((0 ≤ p ∧ p < (T.1 : Int)) ∧ (0 ≤ i ∧ i < ((nn T p.toNat : Nat) : Int)))) : tp_O_requirePoint nb (iI T.1) (bI a) fb (iI p) (iI i) "java/lang/IndexOutOfBoundsException" := by
  have hc := TB_cnt hT
  unfold tp_O_requirePoint
  refine Or.inr (call_0 (fun Q q => rqT ha q) ?_)
  by_cases ho : 0 ≤ p ∧ p < (T.1 : Int)
  · obtain ⟨o, rfl⟩ : ∃ o : Nat, p = (o : Int) := ⟨p.toNat, by omega⟩
    rw [Int.toNat_natCast] at h
    have h1 := TB_o hT (show o < T.1 by omega)
    exact Or.inr (call_0 (fun Q q => rqI hp (by omega) ho q) (call_i (fun Q q => t_U_length hK hT hR (by omega) q) (Or.inl (tpI hi (by omega) (fun w => h ⟨ho, w⟩)))))
  · exact Or.inl (tpI hp (by omega) ho)
-- the number that a call tells
noncomputable def oU (w v : Int) (fO : Nat → Int64) : Nat → Int64 := cI (w = 0) (vp_updL fO 0 ((iI v).toInt64)) fO
theorem vin0 : vp_in (0 : Int32) 1 := by rw [iI_z]; exact iI_in (by omega) (by omega) (by omega)
theorem fin0 {v : Int} {fO : Nat → Int64} {G : (Nat → Int64) → Prop} (g : G (oU 0 v fO)) : vp_in (0 : Int32) 1 ∧ ∀ f : Nat → Int64, f = vp_updL fO (0 : Int32).toNatClampNeg ((iI v).toInt64) → G f := by
  refine ⟨vin0, fun f hf => ?_⟩
  rw [hf, c0]
  unfold oU at g
  rwa [cI_t rfl] at g
theorem oU_n {w v : Int} {fO : Nat → Int64} (h : w ≠ 0) : oU w v fO = fO := cI_f h
theorem rfs {code : Int32} {y : Int} (hy : 0 ≤ y ∧ y ≤ 3) {A B : Int32 → Prop} (h0 : y = 0 → A (iI 0)) (h1 : 1 ≤ y → B (iI y)) : ∃ Q : Int32 → Int32 → Prop, wp_M_refuses code (iI y) Q ∧ ∀ r u : Int32, Q r u → (r = 0 → A u) ∧ (¬ r = 0 → B u) := by
  refine call_2 (fun Q q => t_M_refuses (by omega) q) ?_
  rw [iI_z, bI_0]
  refine ⟨fun w => ?_, fun w => ?_⟩
  · obtain rfl : y = 0 := by omega
    exact h0 rfl
  · exact h1 (by have := Classical.not_not.1 w; omega)
noncomputable def ow2 (a c : Prop) : Int := cI a (cI c 0 2) 1
noncomputable def ow3 (a c d : Prop) : Int := cI a (cI c (cI d 0 3) 2) 1
theorem w2_0 {a c : Prop} (ha : a) (hc : c) : ow2 a c = 0 := by unfold ow2; rw [cI_t ha, cI_t hc]
theorem w2_1 {a c : Prop} (ha : ¬ a) : ow2 a c = 1 := cI_f ha
theorem w2_2 {a c : Prop} (ha : a) (hc : ¬ c) : ow2 a c = 2 := by unfold ow2; rw [cI_t ha, cI_f hc]
theorem w3_0 {a c d : Prop} (ha : a) (hc : c) (hd : d) : ow3 a c d = 0 := by unfold ow3; rw [cI_t ha, cI_t hc, cI_t hd]
theorem w3_1 {a c d : Prop} (ha : ¬ a) : ow3 a c d = 1 := cI_f ha
theorem w3_2 {a c d : Prop} (ha : a) (hc : ¬ c) : ow3 a c d = 2 := by unfold ow3; rw [cI_t ha, cI_f hc]
theorem w3_3 {a c d : Prop} (ha : a) (hc : c) (hd : ¬ d) : ow3 a c d = 3 := by unfold ow3; rw [cI_t ha, cI_t hc, cI_f hd]
theorem w2_i {a c : Prop} (h : ow2 a c = 0) : a ∧ c := by
  by_cases ha : a
  · by_cases hc : c
    · exact ⟨ha, hc⟩
    · rw [w2_2 ha hc] at h; omega
  · rw [w2_1 ha] at h; omega
theorem w3_i {a c d : Prop} (h : ow3 a c d = 0) : a ∧ c ∧ d := by
  by_cases ha : a
  · by_cases hc : c
    · by_cases hd : d
      · exact ⟨ha, hc, hd⟩
      · rw [w3_3 ha hc hd] at h; omega
    · rw [w3_2 ha hc] at h; omega
  · rw [w3_1 ha] at h; omega
theorem w2_b (a c : Prop) : 0 ≤ ow2 a c ∧ ow2 a c ≤ 3 := by
  unfold ow2
  exact cI_s (P := fun z => 0 ≤ z ∧ z ≤ 3) (fun _ => cI_s (P := fun z => 0 ≤ z ∧ z ≤ 3) (fun _ => by omega) (fun _ => by omega)) (fun _ => by omega)
theorem w3_b (a c d : Prop) : 0 ≤ ow3 a c d ∧ ow3 a c d ≤ 3 := by
  unfold ow3
  exact cI_s (P := fun z => 0 ≤ z ∧ z ≤ 3) (fun _ => cI_s (P := fun z => 0 ≤ z ∧ z ≤ 3) (fun _ => cI_s (P := fun z => 0 ≤ z ∧ z ≤ 3) (fun _ => by omega) (fun _ => by omega)) (fun _ => by omega)) (fun _ => by omega)
theorem lgc (x : Int64) : lg_cmp x x = 0 := by
  unfold lg_cmp
  simp
theorem finq {w v : Int} (hw : 0 ≤ w ∧ w ≤ 3) {fO : Nat → Int64} {J : Prop} (h : J) : (iI w = iI w → (¬ iI w = 0 → J) ∧ (iI w = 0 → vp_in (0 : Int32) 1 ∧ (lg_cmp ((oU w v fO) (0 : Int32).toNatClampNeg) ((iI (cI (w = 0) v 0)).toInt64) = 0 → J) ∧ (¬ lg_cmp ((oU w v fO) (0 : Int32).toNatClampNeg) ((iI (cI (w = 0) v 0)).toInt64) = 0 → False))) ∧ (¬ iI w = iI w → False) := by
  refine ⟨fun _ => ⟨fun _ => h, fun e => ⟨vin0, fun _ => h, fun n => n ?_⟩⟩, fun n => n rfl⟩
  rw [iI_z, iI_eq (by omega) (by omega) (by omega) (by omega)] at e
  subst e
  unfold oU
  rw [cI_t rfl, cI_t rfl, c0]
  exact lgc _
