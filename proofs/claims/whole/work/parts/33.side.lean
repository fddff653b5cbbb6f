-- sides: (x, y, d), a point and the direction that is left it; J says what is inside, T where the walk turns left
def ddx (d : Int) : Int := if d = 0 then 1 else if d = 2 then -1 else 0
def ddy (d : Int) : Int := if d = 1 then 1 else if d = 3 then -1 else 0
def aX (d : Int) : Int := if d = 1 then -1 else if d = 2 then -1 else 0
def aY (d : Int) : Int := if d = 2 then -1 else if d = 3 then -1 else 0
def dL (d : Int) : Int := if d = 0 then 3 else d - 1
def dR (d : Int) : Int := if d = 3 then 0 else d + 1
abbrev Sd := Int × Int × Int
-- the samples to the right and to the left of a side
def sR (J : Int → Int → Prop) (s : Sd) : Prop := J (s.1 + aX s.2.2) (s.2.1 + aY s.2.2)
def sL (J : Int → Int → Prop) (s : Sd) : Prop := J (s.1 + aX (dL s.2.2)) (s.2.1 + aY (dL s.2.2))
def sV (J : Int → Int → Prop) (s : Sd) : Prop := (0 ≤ s.2.2 ∧ s.2.2 ≤ 3) ∧ sR J s ∧ ¬ sL J s
def sE (s : Sd) : Sd := (s.1 + ddx s.2.2, s.2.1 + ddy s.2.2, s.2.2)
noncomputable def nx (J T : Int → Int → Prop) (s : Sd) : Sd :=
  ((sE s).1, (sE s).2.1, cI (sR J (sE s)) (cI (sL J (sE s)) (dL s.2.2) s.2.2) (cI (sL J (sE s) ∧ T (sE s).1 (sE s).2.1) (dL s.2.2) (dR s.2.2)))
theorem d4 {d : Int} (h : 0 ≤ d ∧ d ≤ 3) : d = 0 ∨ d = 1 ∨ d = 2 ∨ d = 3 := by omega
theorem nx_V {J T : Int → Int → Prop} {s : Sd} (h : sV J s) : sV J (nx J T s) := by
  obtain ⟨x, y, d⟩ := s
  obtain ⟨hd, h1, h2⟩ := h
  have hd : 0 ≤ d ∧ d ≤ 3 := hd
  simp only [sR, sL] at h1 h2
  simp only [nx, sE]
  by_cases r : sR J (x + ddx d, y + ddy d, d) <;> by_cases q : sL J (x + ddx d, y + ddy d, d)
  · rw [cI_t r, cI_t q]
    simp only [sV, sR, sL] at r q ⊢
    rcases d4 hd with rfl | rfl | rfl | rfl <;> simp [ddx, ddy, aX, aY, dL] at h1 h2 r q ⊢ <;> grind
  · rw [cI_t r, cI_f q]
    simp only [sV, sR, sL] at r q ⊢
    rcases d4 hd with rfl | rfl | rfl | rfl <;> simp [ddx, ddy, aX, aY, dL] at h1 h2 r q ⊢ <;> grind
  · rw [cI_f r]
    by_cases t : T (x + ddx d) (y + ddy d)
    · rw [cI_t ⟨q, t⟩]
      simp only [sV, sR, sL] at r q ⊢
      rcases d4 hd with rfl | rfl | rfl | rfl <;> simp [ddx, ddy, aX, aY, dL] at h1 h2 r q ⊢ <;> grind
    · rw [cI_f (fun k => t k.2)]
      simp only [sV, sR, sL] at r q ⊢
      rcases d4 hd with rfl | rfl | rfl | rfl <;> simp [ddx, ddy, aX, aY, dL, dR] at h1 h2 r q ⊢ <;> grind
  · rw [cI_f r, cI_f (fun k => q k.1)]
    simp only [sV, sR, sL] at r q ⊢
    rcases d4 hd with rfl | rfl | rfl | rfl <;> simp [ddx, ddy, aX, aY, dL, dR] at h1 h2 r q ⊢ <;> grind
theorem nx_inj {J T : Int → Int → Prop} {s t : Sd} (hs : sV J s) (ht : sV J t) (e : nx J T s = nx J T t) : s = t := by
  obtain ⟨x, y, d⟩ := s
  obtain ⟨x', y', d'⟩ := t
  obtain ⟨hd, h1, h2⟩ := hs
  obtain ⟨hd', h1', h2'⟩ := ht
  have hd : 0 ≤ d ∧ d ≤ 3 := hd
  have hd' : 0 ≤ d' ∧ d' ≤ 3 := hd'
  simp only [nx, sE, Prod.mk.injEq] at e
  obtain ⟨e1, e2, e3⟩ := e
  simp only [sR, sL] at h1 h2 h1' h2' e3
  unfold cI at e3
  rcases d4 hd with rfl | rfl | rfl | rfl <;> rcases d4 hd' with rfl | rfl | rfl | rfl <;> simp [ddx, ddy, aX, aY, dL, dR] at h1 h2 h1' h2' e1 e2 e3 ⊢ <;> grind
