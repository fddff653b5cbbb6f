-- least numbers
noncomputable def mu (P : Nat → Prop) : Nat := Classical.epsilon (fun n => P n ∧ ∀ m, m < n → ¬ P m)
theorem mu_ex {P : Nat → Prop} (h : ∃ n, P n) : ∃ n, P n ∧ ∀ m, m < n → ¬ P m := by
  obtain ⟨n, hn⟩ := h
  induction n using Nat.strongRecOn with
  | _ n ih =>
    by_cases e : ∃ m, m < n ∧ P m
    · obtain ⟨m, h1, h2⟩ := e; exact ih m h1 h2
    · exact ⟨n, hn, fun m hm hp => e ⟨m, hm, hp⟩⟩
theorem mu_s {P : Nat → Prop} (h : ∃ n, P n) : P (mu P) ∧ ∀ m, m < mu P → ¬ P m := Classical.epsilon_spec (mu_ex h)
theorem mu_u {P : Nat → Prop} {n : Nat} (h : P n) (h' : ∀ m, m < n → ¬ P m) : mu P = n := by
  have := mu_s ⟨n, h⟩
  rcases Nat.lt_trichotomy (mu P) n with q | q | q
  · exact absurd this.1 (h' _ q)
  · exact q
  · exact absurd h (this.2 _ q)
-- counting
theorem cnt_list {P : Nat → Prop} {n : Nat} {l : List Nat} (hn : l.Nodup) (h : ∀ a ∈ l, a < n ∧ P a) : (l.length : Int) ≤ sm (fun k => cI (P k) 1 0) n := by
  induction n generalizing l with
  | zero =>
    cases l with
    | nil => simp [sm]
    | cons a l => have := h a (by simp); omega
  | succ n ih =>
    simp only [sm]
    by_cases e : n ∈ l
    · have h1 := ih (l := l.erase n) (hn.erase n) (fun a ha => by
        have := (hn.mem_erase_iff).1 ha
        have h2 := h a this.2
        exact ⟨by omega, h2.2⟩)
      have h3 := List.length_erase_of_mem e
      have h4 : 0 < l.length := List.length_pos_of_mem e
      rw [cI_t (h n e).2]; omega
    · have h1 := ih hn (fun a ha => by
        have h2 := h a ha
        refine ⟨?_, h2.2⟩
        have : a ≠ n := fun q => e (q ▸ ha)
        omega)
      have : (0:Int) ≤ cI (P n) 1 0 := cI_s (P := fun z => (0:Int) ≤ z) (fun _ => by omega) (fun _ => by omega)
      omega
def cd (s : Sd) : Nat := if s.2.2 = 1 then s.2.1.toNat * 17 + s.1.toNat else if s.2.2 = 3 then (s.2.1 - 1).toNat * 17 + s.1.toNat else if s.2.2 = 0 then (16 + s.1.toNat) * 17 + s.2.1.toNat else (16 + (s.1 - 1).toNat) * 17 + s.2.1.toNat
def chg (J : Int → Int → Prop) (c : Nat) : Prop := (c / 17 < 16 ∧ ¬ (J ((c % 17 : Nat) - 1) (c / 17 : Nat) ↔ J (c % 17 : Nat) (c / 17 : Nat))) ∨ (16 ≤ c / 17 ∧ ¬ (J ((c / 17 : Nat) - 16) ((c % 17 : Nat) - 1) ↔ J ((c / 17 : Nat) - 16) (c % 17 : Nat)))
def Box (J : Int → Int → Prop) (W H : Nat) : Prop := (1 ≤ W ∧ W ≤ 16) ∧ (1 ≤ H ∧ H ≤ 16) ∧ ∀ x y, J x y → 0 ≤ x ∧ x < W ∧ 0 ≤ y ∧ y < H
theorem sV_box {J : Int → Int → Prop} {W H : Nat} (hJ : Box J W H) {s : Sd} (h : sV J s) : (s.2.2 = 0 ∧ 0 ≤ s.1 ∧ s.1 < W ∧ 0 ≤ s.2.1 ∧ s.2.1 < H) ∨ (s.2.2 = 1 ∧ 1 ≤ s.1 ∧ s.1 ≤ W ∧ 0 ≤ s.2.1 ∧ s.2.1 < H) ∨ (s.2.2 = 2 ∧ 1 ≤ s.1 ∧ s.1 ≤ W ∧ 1 ≤ s.2.1 ∧ s.2.1 ≤ H) ∨ (s.2.2 = 3 ∧ 0 ≤ s.1 ∧ s.1 < W ∧ 1 ≤ s.2.1 ∧ s.2.1 ≤ H) := by
  obtain ⟨x, y, d⟩ := s
  obtain ⟨hd, h1, h2⟩ := h
  have := hJ.2.2 _ _ h1
  rcases d4 hd with rfl | rfl | rfl | rfl <;> simp [aX, aY] at this ⊢ <;> omega
theorem cd_at {J : Int → Int → Prop} {W H : Nat} (hJ : Box J W H) {s : Sd} (h : sV J s) : cd s < 544 ∧ chg J (cd s) := by
  have hb := sV_box hJ h
  obtain ⟨hW, hH, -⟩ := hJ
  obtain ⟨x, y, d⟩ := s
  obtain ⟨hd, h1, h2⟩ := h
  simp only [sR, sL] at h1 h2
  simp only [cd, chg] at hb ⊢
  rcases hb with ⟨rfl, hb⟩ | ⟨rfl, hb⟩ | ⟨rfl, hb⟩ | ⟨rfl, hb⟩ <;> simp [aX, aY, dL] at h1 h2 ⊢
  · have e1 : ((16 + x.toNat) * 17 + y.toNat) / 17 = 16 + x.toNat := by omega
    have e2 : ((16 + x.toNat) * 17 + y.toNat) % 17 = y.toNat := by omega
    refine ⟨by omega, Or.inr ⟨by omega, ?_⟩⟩
    have q1 : (((16 + x.toNat) * 17 + y.toNat : Nat) : Int) / 17 - 16 = x := by omega
    have q2 : (((16 + x.toNat) * 17 + y.toNat : Nat) : Int) % 17 = y := by omega
    have q3 := q1; have q4 := q2
    push_cast at q3 q4
    grind
  · refine ⟨by omega, Or.inl ⟨by omega, ?_⟩⟩
    have q3 : ((y.toNat : Int) * 17 + x.toNat) / 17 = y := by omega
    have q4 : ((y.toNat : Int) * 17 + x.toNat) % 17 = x := by omega
    grind
  · refine ⟨by omega, Or.inr ⟨by omega, ?_⟩⟩
    have q3 : ((16 + ((x - 1).toNat : Int)) * 17 + y.toNat) / 17 - 16 = x - 1 := by omega
    have q4 : ((16 + ((x - 1).toNat : Int)) * 17 + y.toNat) % 17 = y := by omega
    grind
  · refine ⟨by omega, Or.inl ⟨by omega, ?_⟩⟩
    have q3 : (((y - 1).toNat : Int) * 17 + x.toNat) / 17 = y - 1 := by omega
    have q4 : (((y - 1).toNat : Int) * 17 + x.toNat) % 17 = x := by omega
    grind
theorem cd_inj {J : Int → Int → Prop} {W H : Nat} (hJ : Box J W H) {s t : Sd} (hs : sV J s) (ht : sV J t) (e : cd s = cd t) : s = t := by
  have hb := sV_box hJ hs
  have hb' := sV_box hJ ht
  obtain ⟨hW, hH, -⟩ := hJ
  obtain ⟨x, y, d⟩ := s
  obtain ⟨x', y', d'⟩ := t
  obtain ⟨hd, h1, h2⟩ := hs
  obtain ⟨hd', h1', h2'⟩ := ht
  simp only [sR, sL] at h1 h2 h1' h2'
  simp only [cd] at hb hb' e
  rcases hb with ⟨rfl, hb⟩ | ⟨rfl, hb⟩ | ⟨rfl, hb⟩ | ⟨rfl, hb⟩ <;> rcases hb' with ⟨rfl, hb'⟩ | ⟨rfl, hb'⟩ | ⟨rfl, hb'⟩ | ⟨rfl, hb'⟩ <;> simp [aX, aY, dL] at h1 h2 h1' h2' e ⊢ <;> first | omega | (exfalso; grind)
theorem line_16 {b : Int → Prop} {W : Nat} (hW : 1 ≤ W ∧ W ≤ 16) (h : ∀ k, b k → 0 ≤ k ∧ k < W) : sm (fun k => cI (¬ (b ((k : Int) - 1) ↔ b k)) 1 0) 17 ≤ 16 ∧ sm (fun k => cI (¬ (b ((k : Int) - 1) ↔ b k)) 1 0) 17 ≤ W + 1 := by
  have hi : ∀ k : Nat, (0:Int) ≤ cI (¬ (b ((k : Int) - 1) ↔ b k)) 1 0 ∧ cI (¬ (b ((k : Int) - 1) ↔ b k)) (1:Int) 0 ≤ 1 := fun k => cI_s (P := fun z => (0:Int) ≤ z ∧ z ≤ 1) (fun _ => by omega) (fun _ => by omega)
  constructor
  · refine Classical.byContradiction (fun hc => ?_)
    have all : ∀ k : Nat, k < 17 → ¬ (b ((k : Int) - 1) ↔ b k) := by
      intro k hk
      refine Classical.byContradiction (fun q => ?_)
      have e : (17 : Nat) = k + (1 + (16 - k)) := by omega
      rw [e, sm_add, sm_add] at hc
      have h1 := sm_b (n := k) (lo := 0) (hi := 1) (fun j _ => hi j)
      have h2 := sm_b (f := fun j => cI (¬ (b (((k + (1 + j) : Nat) : Int) - 1) ↔ b ((k + (1 + j) : Nat) : Int))) 1 0) (n := 16 - k) (lo := 0) (hi := 1) (fun j _ => hi _)
      simp only [sm, Nat.add_zero] at hc
      rw [cI_f (p := ¬ (b ((k : Int) - 1) ↔ b (k : Int))) q] at hc
      omega
    have par : ∀ k : Nat, k ≤ 17 → (b ((k : Int) - 1) ↔ k % 2 = 1) := by
      intro k
      induction k with
      | zero => intro _; constructor
                · intro q; have := h _ q; omega
                · intro q; omega
      | succ k ih =>
        intro hk
        have h1 := ih (by omega); have h2 := all k (by omega)
        rw [show (((k + 1 : Nat) : Int) - 1) = k by omega]
        have h3 : (k + 1) % 2 = 1 ↔ ¬ k % 2 = 1 := by omega
        rw [h3, ← h1]; exact ⟨fun q q' => h2 ⟨fun _ => q, fun _ => q'⟩, fun q => Classical.byContradiction fun q' => h2 ⟨fun z => absurd z q, fun z => absurd z q'⟩⟩
    have := (par 17 (by omega)).2 (by omega)
    have := h _ this
    omega
  · have e : (17 : Nat) = (W + 1) + (16 - W) := by omega
    rw [e, sm_add, sm_0 (n := 16 - W)]
    · have := sm_b (n := W + 1) (lo := 0) (hi := 1) (fun j _ => hi j); omega
    · intro k _
      refine cI_f (fun q => q ?_)
      constructor
      · intro z; have := h _ z; omega
      · intro z; have := h _ z; omega
