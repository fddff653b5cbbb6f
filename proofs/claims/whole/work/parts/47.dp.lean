-- the fewest pieces: weights, 262144 a piece, 1073741824 for none
def lo (f : Nat → Int) : Nat → Int
  | 0 => 1073741824
  | j + 1 => min (lo f j) (f j)
theorem lo_i (f : Nat → Int) (m : Nat) : lo f m ≤ 1073741824 := by
  induction m with
  | zero => exact Int.le_refl _
  | succ m ih => simp only [lo]; omega
theorem lo_le {f : Nat → Int} {m j : Nat} (h : j < m) : lo f m ≤ f j := by
  induction m with
  | zero => omega
  | succ m ih =>
    simp only [lo]
    by_cases e : j = m
    · subst e; omega
    · have := ih (by omega); omega
theorem lo_at (f : Nat → Int) (m : Nat) : lo f m = 1073741824 ∨ ∃ j, j < m ∧ lo f m = f j := by
  induction m with
  | zero => exact Or.inl rfl
  | succ m ih =>
    simp only [lo]
    by_cases e : f m ≤ lo f m
    · exact Or.inr ⟨m, by omega, by omega⟩
    · rcases ih with h | ⟨j, h1, h2⟩
      · exact Or.inl (by omega)
      · exact Or.inr ⟨j, by omega, by omega⟩
theorem lo_c {f g : Nat → Int} {m : Nat} (h : ∀ j, j < m → f j = g j) : lo f m = lo g m := by
  induction m with
  | zero => rfl
  | succ m ih => simp only [lo]; rw [ih (fun j hj => h j (by omega)), h m (by omega)]
theorem lo_inf {f : Nat → Int} {m : Nat} (h : ∀ j, j < m → 1073741824 ≤ f j) : lo f m = 1073741824 := by
  have h1 := lo_i f m
  rcases lo_at f m with h2 | ⟨j, h2, h3⟩
  · exact h2
  · have := h j h2; omega
-- terms at or above the bound do not matter
theorem lo_c2 {f g : Nat → Int} {m : Nat} (h : ∀ j, j < m → f j = g j ∨ (1073741824 ≤ f j ∧ 1073741824 ≤ g j)) : lo f m = lo g m := by
  induction m with
  | zero => rfl
  | succ m ih =>
    simp only [lo]; rw [ih (fun j hj => h j (by omega))]
    have h1 := lo_i g m
    rcases h m (by omega) with e | e <;> omega
noncomputable def Gd (c : Nat → Nat → Int) (n a : Nat) : Nat → Nat → Int
  | 0, r => cI (r = 0) 0 1073741824
  | d + 1, r => lo (fun j => cI (a + n - (d + 1) < n ∧ j ≤ d ∧ (a + n - (d + 1) + j + 1 < n ∨ j = d) ∧ c (a + n - (d + 1)) (j + 1) ≠ -1) (262144 + c (a + n - (d + 1)) (j + 1) + Gd c n a (d - j) (r - 1)) 1073741824) 24
  termination_by d => d
noncomputable def gg (c : Nat → Nat → Int) (n a r p : Nat) : Int := Gd c n a (a + n - p) r
noncomputable def gt (c : Nat → Nat → Int) (n a r p j : Nat) : Int := cI (p < n ∧ (p + j + 1 < n ∨ p + j + 1 = a + n) ∧ c p (j + 1) ≠ -1) (262144 + c p (j + 1) + gg c n a (r - 1) (p + j + 1)) 1073741824
theorem gg_end (c : Nat → Nat → Int) (n a r : Nat) : gg c n a r (a + n) = cI (r = 0) 0 1073741824 := by
  unfold gg; rw [Nat.sub_self, Gd]
theorem gg_eq (c : Nat → Nat → Int) {n a r p : Nat} (hp : p < a + n) : gg c n a r p = lo (gt c n a r p) 24 := by
  unfold gg
  obtain ⟨d, hd⟩ : ∃ d, a + n - p = d + 1 := ⟨a + n - p - 1, by omega⟩
  rw [hd, Gd]
  refine lo_c (fun j _ => ?_)
  unfold gt gg
  rw [show a + n - (d + 1) = p by omega]
  by_cases e : p < n ∧ (p + j + 1 < n ∨ p + j + 1 = a + n) ∧ c p (j + 1) ≠ -1
  · rw [cI_t e, cI_t ⟨e.1, by omega, by omega, e.2.2⟩, show a + n - (p + j + 1) = d - j by omega]
  · rw [cI_f e, cI_f (fun z => e ⟨z.1, by omega, z.2.2.2⟩)]
theorem gg_i (c : Nat → Nat → Int) {n a r p : Nat} (hp : p ≤ a + n) : gg c n a r p ≤ 1073741824 := by
  by_cases e : p = a + n
  · subst e; rw [gg_end]; exact cI_s (P := fun z => z ≤ 1073741824) (fun _ => by omega) (fun _ => by omega)
  · rw [gg_eq c (by omega)]; exact lo_i _ _
theorem gg_01 (c : Nat → Nat → Int) {n a p : Nat} (hp : p < a + n) : gg c n a 0 p = gg c n a 1 p := by
  rw [gg_eq c hp, gg_eq c hp]; rfl
-- a weight as a count and a cost
def RP (cn co g d : Int) : Prop := (g < 1073741824 ∧ g = cn * 262144 + co ∧ (0 ≤ co ∧ co ≤ 64 * d) ∧ (0 ≤ cn ∧ cn ≤ d)) ∨ (g = 1073741824 ∧ cn = 1000000000 ∧ co = 0)
def Hc (c : Nat → Nat → Int) : Prop := (∀ p k, c p k = -1 ∨ (0 ≤ c p k ∧ c p k ≤ 64 * k)) ∧ ∀ p, c p 1 = 0
theorem gg_0 {c : Nat → Nat → Int} (hc : Hc c) {n a : Nat} (m : Nat) : ∀ r p, p ≤ a + n → a + n - p ≤ m → 0 ≤ gg c n a r p := by
  induction m with
  | zero =>
    intro r p h1 h2
    obtain rfl : p = a + n := by omega
    rw [gg_end]; exact cI_s (P := fun z => 0 ≤ z) (fun _ => by omega) (fun _ => by omega)
  | succ m ih =>
    intro r p h1 h2
    by_cases e : p = a + n
    · subst e; rw [gg_end]; exact cI_s (P := fun z => 0 ≤ z) (fun _ => by omega) (fun _ => by omega)
    rw [gg_eq c (by omega)]
    rcases lo_at (gt c n a r p) 24 with h | ⟨j, h3, h4⟩
    · omega
    · rw [h4]; unfold gt
      refine cI_s (P := fun z => 0 ≤ z) (fun w => ?_) (fun _ => by omega)
      have := ih (r - 1) (p + j + 1) (by omega) (by omega)
      have := hc.1 p (j + 1)
      omega
theorem gg_far {c : Nat → Nat → Int} (hc : Hc c) {n a : Nat} (m : Nat) : ∀ r p, p < n → n - p ≤ m → n - p < r → gg c n a r p = 1073741824 := by
  induction m with
  | zero => intro r p h1 h2; omega
  | succ m ih =>
    intro r p h1 h2 h3
    rw [gg_eq c (by omega)]
    refine lo_inf (fun j hj => ?_)
    unfold gt
    refine cI_s (P := fun z => 1073741824 ≤ z) (fun w => ?_) (fun _ => by omega)
    have h5 := hc.1 p (j + 1)
    rcases w.2.1 with w1 | w1
    · have := ih (r - 1) (p + j + 1) w1 (by omega) (by omega)
      omega
    · rw [w1, gg_end, cI_f (by omega)]; omega
theorem gg_near {c : Nat → Nat → Int} (hc : Hc c) {n : Nat} (hn : n ≤ 512) (m : Nat) : ∀ r p, p < n → n - p ≤ m → r ≤ n - p → gg c n 0 r p ≤ 262144 * ((n - p : Nat) : Int) := by
  induction m with
  | zero => intro r p h1 h2; omega
  | succ m ih =>
    intro r p h1 h2 h3
    rw [gg_eq c (by omega)]
    have h4 := lo_le (f := gt c n 0 r p) (m := 24) (j := 0) (by omega)
    have h5 : gt c n 0 r p 0 = 262144 + c p 1 + gg c n 0 (r - 1) (p + 1) := by
      unfold gt
      rw [cI_t ⟨h1, by omega, by rw [hc.2 p]; omega⟩]
    rw [hc.2 p] at h5
    by_cases e : p + 1 = n
    · have h6 : gg c n 0 (r - 1) (p + 1) = 0 := by
        have q := gg_end c n 0 (r - 1)
        rw [Nat.zero_add] at q
        rw [e, q, cI_t (by omega)]
      omega
    · have := ih (r - 1) (p + 1) (by omega) (by omega) (by omega)
      omega
-- the pair of a term
theorem RP_add {cn co g d e k : Int} (h : RP cn co g d) (hk : 0 ≤ e ∧ e ≤ 64 * k) (hd : d + k ≤ 600) (hk1 : 1 ≤ k) (hd0 : 0 ≤ d) (hg : g < 1073741824) : RP (cn + 1) (co + e) (262144 + e + g) (d + k) := by
  unfold RP at h ⊢
  rcases h with ⟨h1, h2, h3, h4⟩ | ⟨h1, h2, h3⟩
  · left; omega
  · omega
theorem RP_lt {cn co g d cn' co' g' d' : Int} (h : RP cn co g d) (h' : RP cn' co' g' d') (hd : 0 ≤ d ∧ d ≤ 600) (hd' : 0 ≤ d' ∧ d' ≤ 600) (hg : g < 1073741824) : (cn < cn' ∨ (cn = cn' ∧ co < co')) ↔ g < g' := by
  unfold RP at h h'
  omega
theorem RP_eq {cn co g d cn' co' g' d' : Int} (h : RP cn co g d) (h' : RP cn' co' g' d') (hd : 0 ≤ d ∧ d ≤ 600) (hd' : 0 ≤ d' ∧ d' ≤ 600) (hg : g < 1073741824) : (cn = cn' ∧ co = co') ↔ g = g' := by
  unfold RP at h h'
  omega
theorem RP_far {cn co g d : Int} (h : RP cn co g d) (hd : 0 ≤ d ∧ d ≤ 600) : cn < 1000000000 ↔ g < 1073741824 := by
  unfold RP at h
  omega
theorem RP_mono {cn co g d d' : Int} (h : RP cn co g d) (hd : d ≤ d') : RP cn co g d' := by
  unfold RP at h ⊢
  omega
theorem RP_b {cn co g d : Int} (h : RP cn co g d) (hd : 0 ≤ d ∧ d ≤ 600) : (0 ≤ cn ∧ cn ≤ 1000000000) ∧ (0 ≤ co ∧ co ≤ 40000) ∧ g ≤ 1073741824 := by
  unfold RP at h
  omega
