-- ints: every int is iI of a number; sums need no bounds, comparisons do
theorem iI_exists : ∃ f : Int → Int32, f = Int32.ofInt := ⟨_, rfl⟩
noncomputable def iI : Int → Int32 := Classical.choose iI_exists
theorem iI_d (z : Int) : iI z = Int32.ofInt z := congrFun (Classical.choose_spec iI_exists) z
theorem iI_add (a b : Int) : iI a + iI b = iI (a + b) := by simp only [iI_d]; exact (Int32.ofInt_add a b).symm
theorem iI_sub (a b : Int) : iI a - iI b = iI (a - b) := by simp only [iI_d]; exact (Int32.ofInt_sub a b).symm
theorem iI_mul (a b : Int) : iI a * iI b = iI (a * b) := by simp only [iI_d]; exact (Int32.ofInt_mul a b).symm
theorem iI_neg (a : Int) : - iI a = iI (-a) := by simp only [iI_d]; exact (Int32.ofInt_neg a).symm
theorem iI_lit (n : Nat) : (OfNat.ofNat n : Int32) = iI (OfNat.ofNat n : Int) := by
  rw [iI_d]
  show Int32.ofNat n = _
  exact Int32.ofInt_eq_ofNat.symm
theorem iI_z : (0 : Int32) = iI 0 := iI_lit 0
theorem iI_T {a : Int} (h : -2147483648 ≤ a) (h' : a < 2147483648) : (iI a).toInt = a := by rw [iI_d]; exact Int32.toInt_ofInt_of_le h h'
theorem iI_of (x : Int32) : x = iI x.toInt := by rw [iI_d]; exact (Int32.ofInt_toInt x).symm
theorem iI_ex (x : Int32) : ∃ a : Int, -2147483648 ≤ a ∧ a < 2147483648 ∧ x = iI a := ⟨x.toInt, Int32.le_toInt x, Int32.toInt_lt x, iI_of x⟩
theorem iI_lt {a b : Int} (h : -2147483648 ≤ a) (h' : a < 2147483648) (k : -2147483648 ≤ b) (k' : b < 2147483648) : (iI a < iI b) = (a < b) := by
  rw [Int32.lt_iff_toInt_lt, iI_T h h', iI_T k k']
theorem iI_le {a b : Int} (h : -2147483648 ≤ a) (h' : a < 2147483648) (k : -2147483648 ≤ b) (k' : b < 2147483648) : (iI a ≤ iI b) = (a ≤ b) := by
  rw [Int32.le_iff_toInt_le, iI_T h h', iI_T k k']
theorem iI_eq {a b : Int} (h : -2147483648 ≤ a) (h' : a < 2147483648) (k : -2147483648 ≤ b) (k' : b < 2147483648) : (iI a = iI b) = (a = b) := by
  rw [← Int32.toInt_inj, iI_T h h', iI_T k k']
theorem iI_cl {a : Int} (h : -2147483648 ≤ a) (h' : a < 2147483648) : (iI a).toNatClampNeg = a.toNat := by rw [iI_d]; exact Int32.toNatClampNeg_ofInt_of_le h h'
theorem iI_nI (n : Nat) : nI n = iI n := by rw [iI_d]; exact Int32.ofInt_eq_ofNat.symm
theorem iI_ofNat (n : Nat) : Int32.ofNat n = iI n := by rw [iI_d]; exact Int32.ofInt_eq_ofNat.symm
theorem iI_in {a : Int} {n : Nat} (h : 0 ≤ a) (h' : a < n) (hn : n < 2147483648) : vp_in (iI a) n := by
  unfold vp_in
  rw [iI_z, iI_lt (by omega) (by omega) (by omega) (by omega), iI_cl (by omega) (by omega)]
  omega
theorem iI_div {a b : Int} (h : -2147483648 < a) (h' : a < 2147483648) (k : -2147483648 ≤ b) (k' : b < 2147483648) : iI a / iI b = iI (a.tdiv b) := by
  rw [← Int32.toInt_inj, Int32.toInt_div_of_ne_left _ _ (by
    intro e
    have e2 := congrArg Int32.toInt e
    rw [iI_T (by omega) h'] at e2
    have : Int32.minValue.toInt = -2147483648 := rfl
    omega), iI_T (by omega) h', iI_T k k', iI_T]
  · have := Int.natAbs_tdiv_le_natAbs a b; omega
  · have := Int.natAbs_tdiv_le_natAbs a b; omega
theorem iI_rem {a b : Int} (h : -2147483648 < a) (h' : a < 2147483648) (k : -2147483648 ≤ b) (k' : b < 2147483648) : iI a - iI a / iI b * iI b = iI (a.tmod b) := by
  rw [iI_div h h' k k', iI_mul, iI_sub]
  congr 1
  have := Int.mul_tdiv_add_tmod a b
  rw [Int.mul_comm] at this
  omega
theorem iI_and1 {a : Int} : iI a &&& iI 1 = iI (a % 2) := by
  have h : iI a &&& iI 1 = nI ((iI a).toBitVec.toNat % 2 ^ 1) := pk_and (iI a) 1 (by rw [iI_d]; rfl)
  rw [h, iI_nI]
  congr 1
  have e : ((iI a).toBitVec.toNat : Int) = a % 4294967296 := by
    rw [iI_d]
    show ((BitVec.ofInt 32 a).toNat : Int) = _
    rw [BitVec.toNat_ofInt]
    have : (0:Int) ≤ a % 4294967296 := Int.emod_nonneg _ (by decide)
    show ((a % 4294967296).toNat : Int) = _
    omega
  omega
theorem iI_and3 {a : Int} : iI a &&& iI 3 = iI (a % 4) := by
  have h : iI a &&& iI 3 = nI ((iI a).toBitVec.toNat % 2 ^ 2) := pk_and (iI a) 2 (by rw [iI_d]; rfl)
  rw [h, iI_nI]
  congr 1
  have e : ((iI a).toBitVec.toNat : Int) = a % 4294967296 := by
    rw [iI_d]
    show ((BitVec.ofInt 32 a).toNat : Int) = _
    rw [BitVec.toNat_ofInt]
    have : (0:Int) ≤ a % 4294967296 := Int.emod_nonneg _ (by decide)
    show ((a % 4294967296).toNat : Int) = _
    omega
  omega
noncomputable def cI {α : Type} (p : Prop) (a b : α) : α := @ite α p (Classical.propDecidable p) a b
theorem cI_t {α : Type} {p : Prop} {a b : α} (h : p) : cI p a b = a := by unfold cI; rw [if_pos h]
theorem cI_f {α : Type} {p : Prop} {a b : α} (h : ¬ p) : cI p a b = b := by unfold cI; rw [if_neg h]
theorem cI_c {α : Type} {p q : Prop} {a b : α} (h : p ↔ q) : cI p a b = cI q a b := by rw [show p = q from propext h]
theorem cI_s {α : Type} {P : α → Prop} {p : Prop} {a b : α} (h1 : p → P a) (h2 : ¬ p → P b) : P (cI p a b) := by
  by_cases h : p
  · rw [cI_t h]; exact h1 h
  · rw [cI_f h]; exact h2 h
noncomputable def bI (p : Prop) : Int32 := iI (cI p 1 0)
theorem bI_t {p : Prop} (h : p) : bI p = iI 1 := by unfold bI; rw [cI_t h]
theorem bI_f {p : Prop} (h : ¬ p) : bI p = iI 0 := by unfold bI; rw [cI_f h]
theorem bI_0 (p : Prop) : (bI p = iI 0) = ¬ p := by
  by_cases h : p
  · rw [bI_t h, iI_eq (by omega) (by omega) (by omega) (by omega)]; simp [h]
  · rw [bI_f h]; simp [h]
theorem bI_1 (p : Prop) : (bI p = iI 1) = p := by
  by_cases h : p
  · rw [bI_t h]; simp [h]
  · rw [bI_f h, iI_eq (by omega) (by omega) (by omega) (by omega)]; simp [h]
theorem bI_01 (p : Prop) : bI p = iI 0 ∨ bI p = iI 1 := by
  by_cases h : p
  · right; exact bI_t h
  · left; exact bI_f h
theorem bI_c {p q : Prop} (h : p ↔ q) : bI p = bI q := by rw [show p = q from propext h]
theorem jmax_i {a b : Int} (h : -2147483648 ≤ a) (h' : a < 2147483648) (k : -2147483648 ≤ b) (k' : b < 2147483648) : jmax (iI a) (iI b) = iI (max a b) := by
  unfold jmax; simp only [iI_lt h h' k k']; split <;> congr 1 <;> omega
theorem jmin_i {a b : Int} (h : -2147483648 ≤ a) (h' : a < 2147483648) (k : -2147483648 ≤ b) (k' : b < 2147483648) : jmin (iI a) (iI b) = iI (min a b) := by
  unfold jmin; simp only [iI_lt k k' h h']; split <;> congr 1 <;> omega
theorem jabs_i {a : Int} (h : -2147483648 ≤ a) (h' : a < 2147483648) : jabs (iI a) = iI (a.natAbs : Int) := by
  unfold jabs
  simp (disch := omega) only [iI_lit, iI_le]
  split
  · congr 1; omega
  · rw [iI_sub]; congr 1; omega
theorem nar_b {a : Int} (h : -128 ≤ a) (h' : a < 128) : vp_nar .byte (iI a) = iI a := by
  have key : ∀ k : Nat, k < 256 → vp_nar .byte (iI ((k : Int) - 128)) = iI ((k : Int) - 128) := by simp only [iI_d]; decide +kernel
  have := key (a + 128).toNat (by omega)
  rwa [show (((a + 128).toNat : Int)) - 128 = a by omega] at this
theorem nar_b2 {a : Int} (h : -128 ≤ a) (h' : a < 128) : vp_nar .byte ((iI a).toInt8.toInt32) = iI a := by
  have key : ∀ k : Nat, k < 256 → vp_nar .byte ((iI ((k : Int) - 128)).toInt8.toInt32) = iI ((k : Int) - 128) := by simp only [iI_d]; decide +kernel
  have := key (a + 128).toNat (by omega)
  rwa [show (((a + 128).toNat : Int)) - 128 = a by omega] at this
-- calls: a callee that answers v
theorem call_i {v : Int32} {wp : (Int32 → Unit → Prop) → Prop} {G : Int32 → Prop} (h : ∀ Q : Int32 → Unit → Prop, Q v () → wp Q) (g : G v) : ∃ Q : Int32 → Unit → Prop, wp Q ∧ ∀ r : Int32, Q r () → G r :=
  ⟨fun r _ => r = v, h _ rfl, fun _ e => e ▸ g⟩
theorem call_r {α : Type} {P : α → Prop} {wp : (α → Prop) → Prop} {G : α → Prop} (h : wp P) (g : ∀ a, P a → G a) : ∃ Q : α → Prop, wp Q ∧ ∀ a, Q a → G a := ⟨P, h, g⟩
-- loops: the state at step k is known, N steps at most
theorem lp_n {σ : Type} {body : (σ → Prop) → σ → Prop} {z : σ} (I : Nat → σ → Prop) (N : Nat) (h0 : ∃ k, k ≤ N ∧ I k z) (step : ∀ k z (b : σ → Prop), k ≤ N → I k z → (∀ z', k + 1 ≤ N → I (k + 1) z' → b z') → body b z) : lpW body z := by
  refine ⟨fun m z => ∃ k, k ≤ N ∧ m = N - k ∧ I k z, ?_, ?_⟩
  · obtain ⟨k, hk, hi⟩ := h0
    exact ⟨N - k, k, hk, rfl, hi⟩
  · rintro m z ⟨k, hk, rfl, hi⟩
    refine step k z _ hk hi (fun z' hk' hi' => ⟨N - (k + 1), by omega, k + 1, hk', rfl, hi'⟩)
theorem lp_m {σ : Type} {body : (σ → Prop) → σ → Prop} {z : σ} (I : σ → Prop) (m : σ → Nat) (h0 : I z) (step : ∀ z (b : σ → Prop), I z → (∀ z', m z' < m z → I z' → b z') → body b z) : lpW body z := by
  refine ⟨fun k z => k = m z ∧ I z, ⟨_, rfl, h0⟩, ?_⟩
  rintro k z ⟨rfl, hi⟩
  exact step z _ hi (fun z' hm hi' => ⟨_, hm, rfl, hi'⟩)
theorem t_M_in {a b c : Int} {post : Int32 → Unit → Prop} (ha : -2147483648 ≤ a ∧ a < 2147483648) (hb : -2147483648 ≤ b ∧ b < 2147483648) (hc : -2147483648 ≤ c ∧ c < 2147483648) (h : post (bI (b ≤ a ∧ a ≤ c)) ()) : wp_M_in (iI a) (iI b) (iI c) post := by
  unfold wp_M_in wp_M_in_J14
  simp (disch := omega) only [iI_lit, iI_neg, iI_add, iI_sub, iI_mul, iI_nI, iI_ofNat, iI_lt, iI_le, iI_eq, iI_cl, bI_0, bI_1, forall_eq, forall_eq_apply_imp_iff, not_true_eq_false, not_false_eq_true, ne_eq, Classical.not_not]
  grind [bI_t, bI_f]
theorem t_P_has {w h x y : Int} {post : Int32 → Unit → Prop} (hw : 1 ≤ w ∧ w ≤ 16) (hh : 1 ≤ h ∧ h ≤ 16) (hx : -2147483648 ≤ x ∧ x < 2147483648) (hy : -2147483648 ≤ y ∧ y < 2147483648) (g : post (bI (0 ≤ x ∧ x < w ∧ 0 ≤ y ∧ y < h)) ()) : wp_P_has (iI w) (iI h) (iI x) (iI y) post := by
  unfold wp_P_has wp_P_has_J28
  simp (disch := omega) only [iI_lit, iI_neg, iI_add, iI_sub, iI_mul, iI_nI, iI_ofNat, iI_lt, iI_le, iI_eq, iI_cl, bI_0, bI_1, forall_eq, forall_eq_apply_imp_iff, not_true_eq_false, not_false_eq_true, ne_eq, Classical.not_not]
  grind [bI_t, bI_f]
-- sums
def sm (f : Nat → Int) : Nat → Int
  | 0 => 0
  | n + 1 => sm f n + f n
theorem sm_c {f g : Nat → Int} {n : Nat} (h : ∀ k, k < n → f k = g k) : sm f n = sm g n := by
  induction n with
  | zero => rfl
  | succ n ih => simp only [sm]; rw [ih (fun k hk => h k (by omega)), h n (by omega)]
theorem sm_b {f : Nat → Int} {n : Nat} {lo hi : Int} (h : ∀ k, k < n → lo ≤ f k ∧ f k ≤ hi) : lo * n ≤ sm f n ∧ sm f n ≤ hi * n := by
  induction n with
  | zero => simp [sm]
  | succ n ih =>
    have h1 := ih (fun k hk => h k (by omega)); have h2 := h n (by omega)
    simp only [sm]
    have e1 : lo * ((n + 1 : Nat) : Int) = lo * n + lo := by rw [Int.natCast_add, Int.mul_add]; simp
    have e2 : hi * ((n + 1 : Nat) : Int) = hi * n + hi := by rw [Int.natCast_add, Int.mul_add]; simp
    omega
theorem sm_add (f : Nat → Int) (a b : Nat) : sm f (a + b) = sm f a + sm (fun k => f (a + k)) b := by
  induction b with
  | zero => simp [sm]
  | succ b ih => rw [← Nat.add_assoc]; simp only [sm]; rw [ih]; omega
theorem sm_0 {f : Nat → Int} {n : Nat} (h : ∀ k, k < n → f k = 0) : sm f n = 0 := by
  induction n with
  | zero => rfl
  | succ n ih => simp only [sm]; rw [ih (fun k hk => h k (by omega)), h n (by omega)]; rfl
theorem sm_mul (f : Nat → Int) (a b : Nat) : sm f (a * b) = sm (fun j => sm (fun i => f (j * b + i)) b) a := by
  induction a with
  | zero => simp [sm]
  | succ a ih => rw [Nat.succ_mul, sm_add, ih]; rfl
theorem sm_succ' (f : Nat → Int) (n : Nat) : sm f (n + 1) = f 0 + sm (fun k => f (k + 1)) n := by
  rw [Nat.add_comm, sm_add]; simp only [sm, Nat.add_comm]; omega
theorem ix_lt {x y W H : Nat} (hx : x < W) (hy : y < H) : y * W + x < W * H := by
  have := Nat.mul_le_mul_left W (show y + 1 ≤ H from hy)
  rw [Nat.mul_add, Nat.mul_one, Nat.mul_comm W y] at this; omega
theorem ix_inj {x y x' y' W : Nat} (hx : x < W) (hx' : x' < W) (h : y * W + x = y' * W + x') : x = x' ∧ y = y' := by
  have e1 : (y * W + x) % W = x := by rw [Nat.mul_comm, Nat.mul_add_mod, Nat.mod_eq_of_lt hx]
  have e2 : (y' * W + x') % W = x' := by rw [Nat.mul_comm, Nat.mul_add_mod, Nat.mod_eq_of_lt hx']
  have hxx : x = x' := by rw [← e1, h, e2]
  refine ⟨hxx, ?_⟩
  have e : y * W = y' * W := by omega
  exact Nat.eq_of_mul_eq_mul_right (by omega) e
