-- how many sides there are; walks close
theorem vis_len {J : Int → Int → Prop} {W H : Nat} (hJ : Box J W H) {l : List Sd} (hn : l.Nodup) (hv : ∀ s ∈ l, sV J s) : l.length ≤ 512 ∧ l.length ≤ W * (H + 1) + H * (W + 1) := by
  have h1 : (l.map cd).Nodup := by
    refine List.pairwise_map.2 (List.Pairwise.imp_of_mem (R := fun a b => a ≠ b) (fun {a b} ha hb hab e => hab (cd_inj hJ (hv a ha) (hv b hb) e)) hn)
  have h2 := cnt_list (P := chg J) (n := 32 * 17) h1 (fun a ha => by
    obtain ⟨s, hs, rfl⟩ := List.mem_map.1 ha
    exact cd_at hJ (hv s hs))
  rw [List.length_map, sm_mul] at h2
  obtain ⟨hW, hH, hb⟩ := hJ
  have row : ∀ j, j < 16 → sm (fun i => cI (chg J (j * 17 + i)) 1 0) 17 ≤ 16 ∧ sm (fun i => cI (chg J (j * 17 + i)) 1 0) 17 ≤ cI (j < H) ((W : Int) + 1) 0 := by
    intro j hj
    have e : sm (fun i => cI (chg J (j * 17 + i)) (1:Int) 0) 17 = sm (fun k => cI (¬ (J ((k : Int) - 1) j ↔ J k j)) 1 0) 17 := sm_c (fun k hk => cI_c (by
      have e1 : (j * 17 + k) / 17 = j := by omega
      have e2 : (j * 17 + k) % 17 = k := by omega
      unfold chg; rw [e1, e2]
      exact ⟨fun q => q.elim (fun q => q.2) (fun q => by omega), fun q => Or.inl ⟨hj, q⟩⟩))
    rw [e]
    have := line_16 (b := fun k => J k j) hW (fun k hk => by have := hb _ _ hk; omega)
    refine ⟨this.1, ?_⟩
    by_cases q : j < H
    · rw [cI_t q]; exact this.2
    · rw [cI_f q, sm_0]; · omega
      intro k _
      refine cI_f (fun z => z ?_)
      constructor
      · intro z; have := hb _ _ z; omega
      · intro z; have := hb _ _ z; omega
  have col : ∀ j, j < 16 → sm (fun i => cI (chg J ((16 + j) * 17 + i)) 1 0) 17 ≤ 16 ∧ sm (fun i => cI (chg J ((16 + j) * 17 + i)) 1 0) 17 ≤ cI (j < W) ((H : Int) + 1) 0 := by
    intro j hj
    have e : sm (fun i => cI (chg J ((16 + j) * 17 + i)) (1:Int) 0) 17 = sm (fun k => cI (¬ (J j ((k : Int) - 1) ↔ J j k)) 1 0) 17 := sm_c (fun k hk => cI_c (by
      have e1 : ((16 + j) * 17 + k) / 17 = 16 + j := by omega
      have e2 : ((16 + j) * 17 + k) % 17 = k := by omega
      unfold chg; rw [e1, e2, show (((16 + j : Nat) : Int) - 16) = j by omega]
      exact ⟨fun q => q.elim (fun q => by omega) (fun q => q.2), fun q => Or.inr ⟨by omega, q⟩⟩))
    rw [e]
    have := line_16 (b := fun k => J j k) hH (fun k hk => by have := hb _ _ hk; omega)
    refine ⟨this.1, ?_⟩
    by_cases q : j < W
    · rw [cI_t q]; exact this.2
    · rw [cI_f q, sm_0]; · omega
      intro k _
      refine cI_f (fun z => z ?_)
      constructor
      · intro z; have := hb _ _ z; omega
      · intro z; have := hb _ _ z; omega
  rw [show (32 : Nat) = 16 + 16 from rfl, sm_add] at h2
  have part : ∀ (f : Nat → Int) (n : Nat) (b : Nat), n ≤ 16 → (∀ j, j < 16 → f j ≤ cI (j < n) ((b : Int)) 0) → sm f 16 ≤ n * b := by
    intro f n b hn hf
    obtain ⟨d, hd⟩ : ∃ d, 16 = n + d := ⟨16 - n, by omega⟩
    have g1 : ∀ m, m ≤ n → sm f m ≤ m * b := by
      intro m
      induction m with
      | zero => intro _; simp [sm]
      | succ m ih =>
        intro hm
        have a1 := ih (by omega); have a2 := hf m (by omega)
        rw [cI_t (by omega)] at a2
        simp only [sm]
        rw [show (((m + 1 : Nat) : Int) * b) = m * b + b by rw [Int.natCast_add, Int.add_mul]; simp]
        omega
    have g2 : ∀ m, m ≤ d → sm (fun k => f (n + k)) m ≤ 0 := by
      intro m
      induction m with
      | zero => intro _; simp [sm]
      | succ m ih =>
        intro hm
        have a1 := ih (by omega); have a2 := hf (n + m) (by omega)
        rw [cI_f (by omega)] at a2
        simp only [sm]; omega
    rw [hd, sm_add]
    have := g1 n (by omega); have := g2 d (by omega); omega
  have up : ∀ (f : Nat → Int), (∀ j, j < 16 → f j ≤ 16) → sm f 16 ≤ 256 := by
    intro f hf
    have := part f 16 16 (by omega) (fun j hj => by rw [cI_t hj]; exact hf j hj)
    omega
  have a1 := up _ (fun j hj => (row j hj).1)
  have a2 := up _ (fun j hj => (col j hj).1)
  have b1 := part (fun j => sm (fun i => cI (chg J (j * 17 + i)) 1 0) 17) H (W + 1) hH.2 (fun j hj => by have := (row j hj).2; push_cast; exact this)
  have b2 := part (fun j => sm (fun i => cI (chg J ((16 + j) * 17 + i)) 1 0) 17) W (H + 1) hW.2 (fun j hj => by have := (col j hj).2; push_cast; exact this)
  constructor
  · omega
  · have : ((W * (H + 1) + H * (W + 1) : Nat) : Int) = (W : Int) * ((H + 1 : Nat) : Int) + (H : Int) * ((W + 1 : Nat) : Int) := by push_cast; rfl
    omega
noncomputable def it (J T : Int → Int → Prop) (s : Sd) : Nat → Sd
  | 0 => s
  | k + 1 => nx J T (it J T s k)
theorem it_V {J T : Int → Int → Prop} {s : Sd} (h : sV J s) (k : Nat) : sV J (it J T s k) := by
  induction k with
  | zero => exact h
  | succ k ih => exact nx_V ih
theorem it_add {J T : Int → Int → Prop} {s : Sd} (a b : Nat) : it J T s (a + b) = it J T (it J T s a) b := by
  induction b with
  | zero => rfl
  | succ b ih => show nx J T (it J T s (a + b)) = _; rw [ih]; rfl
theorem it_back {J T : Int → Int → Prop} {s : Sd} (h : sV J s) {a b : Nat} (e : it J T s (a + b) = it J T s a) : it J T s b = s := by
  induction a with
  | zero => rwa [Nat.zero_add] at e
  | succ a ih =>
    refine ih (nx_inj (T := T) (it_V h _) (it_V h _) ?_)
    rw [show a + 1 + b = a + b + 1 by omega] at e
    exact e
theorem it_close {J T : Int → Int → Prop} {W H : Nat} (hJ : Box J W H) {s : Sd} (h : sV J s) : ∃ n, 0 < n ∧ it J T s n = s := by
  refine Classical.byContradiction (fun hc => ?_)
  have hl := vis_len hJ (l := (List.range 513).map (it J T s)) (by
    refine List.pairwise_map.2 (List.Pairwise.imp_of_mem (R := fun a b => a < b) (fun {a b} _ _ hab e => ?_) (List.pairwise_lt_range (n := 513)))
    exact hc ⟨b - a, by omega, it_back h (a := a) (by rw [show a + (b - a) = b by omega]; exact e.symm)⟩) (fun t ht => by
      obtain ⟨k, -, rfl⟩ := List.mem_map.1 ht
      exact it_V h k)
  rw [List.length_map, List.length_range] at hl
  omega
noncomputable def oN (J T : Int → Int → Prop) (s : Sd) : Nat := mu (fun n => 0 < n ∧ it J T s n = s)
theorem oN_s {J T : Int → Int → Prop} {W H : Nat} (hJ : Box J W H) {s : Sd} (h : sV J s) : 0 < oN J T s ∧ it J T s (oN J T s) = s ∧ ∀ m, 0 < m → m < oN J T s → it J T s m ≠ s := by
  have := mu_s (P := fun n => 0 < n ∧ it J T s n = s) (it_close hJ h)
  exact ⟨this.1.1, this.1.2, fun m h1 h2 h3 => this.2 m h2 ⟨h1, h3⟩⟩
noncomputable def ol (J T : Int → Int → Prop) (s : Sd) : List Sd := (List.range (oN J T s)).map (it J T s)
theorem ol_nodup {J T : Int → Int → Prop} {W H : Nat} (hJ : Box J W H) {s : Sd} (h : sV J s) : (ol J T s).Nodup := by
  refine List.pairwise_map.2 (List.Pairwise.imp_of_mem (R := fun a b => a < b) (fun {a b} ha hb hab e => ?_) (List.pairwise_lt_range (n := oN J T s)))
  have := List.mem_range.1 hb
  exact (oN_s (T := T) hJ h).2.2 (b - a) (by omega) (by omega) (it_back h (a := a) (by rw [show a + (b - a) = b by omega]; exact e.symm))
theorem ol_V {J T : Int → Int → Prop} {s : Sd} (h : sV J s) {t : Sd} (ht : t ∈ ol J T s) : sV J t := by
  obtain ⟨k, -, rfl⟩ := List.mem_map.1 ht
  exact it_V h k
theorem ol_nx {J T : Int → Int → Prop} {W H : Nat} (hJ : Box J W H) {s : Sd} (h : sV J s) {t : Sd} (ht : t ∈ ol J T s) : nx J T t ∈ ol J T s := by
  obtain ⟨k, hk, rfl⟩ := List.mem_map.1 ht
  have hk := List.mem_range.1 hk
  have hs := oN_s (T := T) hJ h
  by_cases e : k + 1 = oN J T s
  · refine List.mem_map.2 ⟨0, List.mem_range.2 hs.1, ?_⟩
    show s = it J T s (k + 1)
    rw [e]; exact hs.2.1.symm
  · exact List.mem_map.2 ⟨k + 1, List.mem_range.2 (by omega), rfl⟩
theorem ol_len {J T : Int → Int → Prop} {s : Sd} : (ol J T s).length = oN J T s := by unfold ol; rw [List.length_map, List.length_range]
def Clo (J T : Int → Int → Prop) (l : List Sd) : Prop := l.Nodup ∧ ∀ t ∈ l, sV J t ∧ nx J T t ∈ l
theorem Clo_app {J T : Int → Int → Prop} {W H : Nat} (hJ : Box J W H) {s : Sd} (h : sV J s) {l : List Sd} (hl : Clo J T l) (hs : s ∉ l) : Clo J T (l ++ ol J T s) := by
  have hdis : ∀ k, it J T s k ∉ l := by
    intro k hk
    have up : ∀ j, it J T s (k + j) ∈ l := by
      intro j
      induction j with
      | zero => exact hk
      | succ j ih => exact (hl.2 _ ih).2
    have hm : ∀ m, it J T s (oN J T s * m) = s := by
      intro m
      induction m with
      | zero => rfl
      | succ m ih => rw [Nat.mul_succ, it_add, ih]; exact (oN_s hJ h).2.1
    have h1 := up (oN J T s * k - k)
    have h2 := (oN_s (T := T) hJ h).1
    have h3 : k ≤ oN J T s * k := Nat.le_mul_of_pos_left k h2
    rw [show k + (oN J T s * k - k) = oN J T s * k by omega, hm] at h1
    exact hs h1
  refine ⟨List.nodup_append.2 ⟨hl.1, ol_nodup hJ h, fun a ha b hb e => ?_⟩, fun t ht => ?_⟩
  · obtain ⟨k, -, rfl⟩ := List.mem_map.1 hb
    exact hdis k (e ▸ ha)
  · rcases List.mem_append.1 ht with q | q
    · exact ⟨(hl.2 t q).1, List.mem_append_left _ (hl.2 t q).2⟩
    · exact ⟨ol_V h q, List.mem_append_right _ (ol_nx hJ h q)⟩
theorem nx_xy (J T : Int → Int → Prop) (s : Sd) : (nx J T s).1 = s.1 + ddx s.2.2 ∧ (nx J T s).2.1 = s.2.1 + ddy s.2.2 := ⟨rfl, rfl⟩
theorem nx_d {J T : Int → Int → Prop} (s : Sd) : (nx J T s).2.2 = s.2.2 ∨ (nx J T s).2.2 = dL s.2.2 ∨ (nx J T s).2.2 = dR s.2.2 := by
  unfold nx
  refine cI_s (P := fun z => z = s.2.2 ∨ z = dL s.2.2 ∨ z = dR s.2.2) (fun _ => ?_) (fun _ => ?_)
  · exact cI_s (P := fun z => z = s.2.2 ∨ z = dL s.2.2 ∨ z = dR s.2.2) (fun _ => by simp) (fun _ => by simp)
  · exact cI_s (P := fun z => z = s.2.2 ∨ z = dL s.2.2 ∨ z = dR s.2.2) (fun _ => by simp) (fun _ => by simp)
theorem dd1 {d : Int} (h : 0 ≤ d ∧ d ≤ 3) : (ddx d = 1 ∧ ddy d = 0 ∧ d = 0) ∨ (ddx d = 0 ∧ ddy d = 1 ∧ d = 1) ∨ (ddx d = -1 ∧ ddy d = 0 ∧ d = 2) ∨ (ddx d = 0 ∧ ddy d = -1 ∧ d = 3) := by
  rcases d4 h with rfl | rfl | rfl | rfl <;> simp [ddx, ddy]
theorem oN_4 {J T : Int → Int → Prop} {W H : Nat} (hJ : Box J W H) {s : Sd} (h : sV J s) : 4 ≤ oN J T s := by
  obtain ⟨h1, h2, -⟩ := oN_s (T := T) hJ h
  refine Classical.byContradiction (fun hc => ?_)
  have v0 := it_V (T := T) h 0; have v1 := it_V (T := T) h 1; have v2 := it_V (T := T) h 2
  have a0 := nx_xy J T (it J T s 0); have a1 := nx_xy J T (it J T s 1); have a2 := nx_xy J T (it J T s 2)
  have c0 := nx_d (J := J) (T := T) (it J T s 0)
  have d0 := dd1 v0.1; have d1 := dd1 v1.1; have d2 := dd1 v2.1
  have e0 : it J T s 0 = s := rfl
  have e1 : it J T s 1 = nx J T (it J T s 0) := rfl
  have e2 : it J T s 2 = nx J T (it J T s 1) := rfl
  have e3 : it J T s 3 = nx J T (it J T s 2) := rfl
  rw [← e1] at a0 c0; rw [← e2] at a1; rw [← e3] at a2
  have : oN J T s = 1 ∨ oN J T s = 2 ∨ oN J T s = 3 := by omega
  rcases this with q | q | q
  · rw [q] at h2; rw [h2] at a0; rw [e0] at a0 d0; omega
  · rw [q] at h2; rw [h2] at a1; rw [e0] at a0 d0 c0
    unfold dL dR at c0
    omega
  · rw [q] at h2; rw [h2] at a2; rw [e0] at a0 d0
    omega
-- the area two ways
noncomputable def aA (J T : Int → Int → Prop) (s : Sd) : Nat → Int := sm (fun k => (it J T s k).1 * ddy (it J T s k).2.2)
noncomputable def aB (J T : Int → Int → Prop) (s : Sd) : Nat → Int := sm (fun k => -((it J T s k).2.1 * ddx (it J T s k).2.2))
theorem aAB {J T : Int → Int → Prop} {s : Sd} (h : sV J s) (n : Nat) : aA J T s n - aB J T s n = (it J T s n).1 * (it J T s n).2.1 - s.1 * s.2.1 := by
  induction n with
  | zero => simp [aA, aB, sm, it]
  | succ n ih =>
    have e1 : aA J T s (n + 1) = aA J T s n + (it J T s n).1 * ddy (it J T s n).2.2 := rfl
    have e2 : aB J T s (n + 1) = aB J T s n + -((it J T s n).2.1 * ddx (it J T s n).2.2) := rfl
    have e3 : (it J T s (n + 1)).1 = (it J T s n).1 + ddx (it J T s n).2.2 := rfl
    have e4 : (it J T s (n + 1)).2.1 = (it J T s n).2.1 + ddy (it J T s n).2.2 := rfl
    rw [e1, e2, e3, e4]
    rcases dd1 (it_V (T := T) h n).1 with ⟨q1, q2, -⟩ | ⟨q1, q2, -⟩ | ⟨q1, q2, -⟩ | ⟨q1, q2, -⟩ <;> rw [q1, q2] <;> grind
theorem aAB_n {J T : Int → Int → Prop} {W H : Nat} (hJ : Box J W H) {s : Sd} (h : sV J s) : aB J T s (oN J T s) = aA J T s (oN J T s) := by
  have := aAB (T := T) h (oN J T s)
  rw [(oN_s (T := T) hJ h).2.1] at this
  omega
