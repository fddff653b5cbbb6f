-- the outlines of all layers: counts, begins, points, layers, areas, and the sides seen in the layer at work
abbrev TS := Nat × (Nat → Nat) × (Nat → Int) × (Nat → Int) × (Nat → Int) × (Nat → Int) × List Sd
def upN {α : Type} (f : Nat → α) (k : Nat) (v : α) : Nat → α := fun j => if j = k then v else f j
theorem upN_t {α : Type} (f : Nat → α) (k : Nat) (v : α) : upN f k v k = v := if_pos rfl
theorem upN_f {α : Type} (f : Nat → α) {k j : Nat} (v : α) (h : j ≠ k) : upN f k v j = f j := if_neg h
def ext (f : Nat → Int) (b : Nat) (v : Nat → Int) : Nat → Int := fun k => if k < b then f k else v (k - b)
theorem ext_t {f : Nat → Int} {b k : Nat} {v : Nat → Int} (h : k < b) : ext f b v k = f k := if_pos h
theorem ext_f {f : Nat → Int} {b k : Nat} {v : Nat → Int} : ext f b v (b + k) = v k := by unfold ext; rw [if_neg (by omega)]; congr 1; omega
def starts (W H : Nat) (C : Nat → Nat → Int) (l : Int) (x y : Nat) (vs : List Sd) : Prop := Ins W H C l x y ∧ ¬ Ins W H C l x ((y : Int) - 1) ∧ ((x : Int), (y : Int), (0 : Int)) ∉ vs
noncomputable def stT (W H : Nat) (C : Nat → Nat → Int) (t sp l : Int) (x y : Nat) (T : TS) : TS :=
  cI (starts W H C l x y T.2.2.2.2.2.2)
    (cI (sp < (aA (Ins W H C l) (TT W H C l t) ((x : Int), (y : Int), 0) (oN (Ins W H C l) (TT W H C l t) ((x : Int), (y : Int), 0))).natAbs)
      (T.1 + 1, upN T.2.1 (T.1 + 1) (T.2.1 T.1 + oN (Ins W H C l) (TT W H C l t) ((x : Int), (y : Int), 0)), ext T.2.2.1 (T.2.1 T.1) (fun k => (it (Ins W H C l) (TT W H C l t) ((x : Int), (y : Int), 0) k).1), ext T.2.2.2.1 (T.2.1 T.1) (fun k => (it (Ins W H C l) (TT W H C l t) ((x : Int), (y : Int), 0) k).2.1), upN T.2.2.2.2.1 T.1 l, upN T.2.2.2.2.2.1 T.1 (aA (Ins W H C l) (TT W H C l t) ((x : Int), (y : Int), 0) (oN (Ins W H C l) (TT W H C l t) ((x : Int), (y : Int), 0))), T.2.2.2.2.2.2 ++ ol (Ins W H C l) (TT W H C l t) ((x : Int), (y : Int), 0))
      (T.1, T.2.1, T.2.2.1, T.2.2.2.1, T.2.2.2.2.1, T.2.2.2.2.2.1, T.2.2.2.2.2.2 ++ ol (Ins W H C l) (TT W H C l t) ((x : Int), (y : Int), 0)))
    T
noncomputable def sxT (W H : Nat) (C : Nat → Nat → Int) (t sp l : Int) (y : Nat) (T : TS) : Nat → TS
  | 0 => T
  | k + 1 => stT W H C t sp l k y (sxT W H C t sp l y T k)
noncomputable def syT (W H : Nat) (C : Nat → Nat → Int) (t sp l : Int) (T : TS) : Nat → TS
  | 0 => (T.1, T.2.1, T.2.2.1, T.2.2.2.1, T.2.2.2.2.1, T.2.2.2.2.2.1, [])
  | k + 1 => sxT W H C t sp l k (syT W H C t sp l T k) W
noncomputable def slT (W H : Nat) (C : Nat → Nat → Int) (t sp : Int) (T : TS) : Nat → TS
  | 0 => T
  | k + 1 => syT W H C t sp ((k : Int) + 1) (slT W H C t sp T k) H
-- one outline: n points from b on, each a step from the one before it, round
def unitS (x y x' y' : Int) : Prop := (x' = x ∧ (y' = y + 1 ∨ y' = y - 1)) ∨ (y' = y ∧ (x' = x + 1 ∨ x' = x - 1))
def OG (W H : Nat) (X Y : Nat → Int) (b n : Nat) : Prop := 4 ≤ n ∧ n ≤ 512 ∧ n ≤ W * (H + 1) + H * (W + 1) ∧ ∀ i, i < n → (0 ≤ X (b + i) ∧ X (b + i) ≤ 16 ∧ 0 ≤ Y (b + i) ∧ Y (b + i) ≤ 16) ∧ unitS (X (b + i)) (Y (b + i)) (X (b + (i + 1) % n)) (Y (b + (i + 1) % n))
def OGs (W H : Nat) (cnt : Nat) (B : Nat → Nat) (X Y Ly Ar : Nat → Int) : Prop := B 0 = 0 ∧ ∀ o, o < cnt → B o ≤ B (o + 1) ∧ OG W H X Y (B o) (B (o + 1) - B o) ∧ (1 ≤ Ly o ∧ Ly o ≤ 7) ∧ (-8192 ≤ Ar o ∧ Ar o ≤ 8192)
theorem OGs_mono {W H cnt : Nat} {B : Nat → Nat} {X Y Ly Ar : Nat → Int} (h : OGs W H cnt B X Y Ly Ar) {o o' : Nat} (h1 : o ≤ o') (h2 : o' ≤ cnt) : B o + 4 * (o' - o) ≤ B o' := by
  induction o' with
  | zero => obtain rfl : o = 0 := by omega
            omega
  | succ o' ih =>
    by_cases e : o = o' + 1
    · subst e; omega
    · have := ih (by omega) (by omega)
      have h3 := h.2 o' (by omega)
      have h4 := h3.2.1.1
      omega
def TG (W H : Nat) (C : Nat → Nat → Int) (t : Int) (l : Nat) (T : TS) : Prop := Clo (Ins W H C l) (TT W H C l t) T.2.2.2.2.2.2 ∧ OGs W H T.1 T.2.1 T.2.2.1 T.2.2.2.1 T.2.2.2.2.1 T.2.2.2.2.2.1 ∧ T.2.1 T.1 + 512 ≤ l * 512 + T.2.2.2.2.2.2.length ∧ T.2.1 T.1 + (W * (H + 1) + H * (W + 1)) ≤ l * (W * (H + 1) + H * (W + 1)) + T.2.2.2.2.2.2.length
theorem st_V {W H : Nat} {C : Nat → Nat → Int} {l : Int} {x y : Nat} {vs : List Sd} (h : starts W H C l x y vs) : sV (Ins W H C l) ((x : Int), (y : Int), 0) := by
  obtain ⟨h1, h2, -⟩ := h
  refine ⟨by simp, ?_, ?_⟩
  · show Ins W H C l ((x : Int) + aX 0) ((y : Int) + aY 0)
    rw [show aX 0 = 0 from rfl, show aY 0 = 0 from rfl, Int.add_zero, Int.add_zero]; exact h1
  · show ¬ Ins W H C l ((x : Int) + aX (dL 0)) ((y : Int) + aY (dL 0))
    rw [show aX (dL 0) = 0 from rfl, show aY (dL 0) = -1 from rfl, Int.add_zero]; exact h2
theorem TG_room {W H : Nat} {C : Nat → Nat → Int} {t : Int} {l : Nat} {T : TS} (hp : Pic W H C) (h : TG W H C t l T) {x y : Nat} (hs : starts W H C l x y T.2.2.2.2.2.2) :
    T.2.1 T.1 + oN (Ins W H C l) (TT W H C l t) ((x : Int), (y : Int), 0) ≤ l * 512 ∧ T.2.1 T.1 + oN (Ins W H C l) (TT W H C l t) ((x : Int), (y : Int), 0) ≤ l * (W * (H + 1) + H * (W + 1)) ∧ oN (Ins W H C l) (TT W H C l t) ((x : Int), (y : Int), 0) ≤ 512 ∧ oN (Ins W H C l) (TT W H C l t) ((x : Int), (y : Int), 0) ≤ W * (H + 1) + H * (W + 1) ∧ 4 ≤ oN (Ins W H C l) (TT W H C l t) ((x : Int), (y : Int), 0) := by
  have hJ := Ins_box hp l
  have hv := st_V hs
  have hc := Clo_app hJ hv h.1 hs.2.2
  have h1 := vis_len hJ hc.1 (fun s hs => (hc.2 s hs).1)
  have h2 := vis_len hJ (ol_nodup (T := TT W H C l t) hJ hv) (fun s hs => ol_V hv hs)
  rw [List.length_append, ol_len] at h1
  rw [ol_len] at h2
  have h3 := oN_4 (T := TT W H C l t) hJ hv
  obtain ⟨-, -, h4, h5⟩ := h
  omega
theorem TG_st {W H : Nat} {C : Nat → Nat → Int} {t sp : Int} {l : Nat} {T : TS} (hp : Pic W H C) (hl : 1 ≤ l ∧ l ≤ 7) (h : TG W H C t l T) (x y : Nat) : TG W H C t l (stT W H C t sp l x y T) := by
  unfold stT
  by_cases hs : starts W H C l x y T.2.2.2.2.2.2
  · rw [cI_t hs]
    have hJ := Ins_box hp l
    have hv := st_V hs
    have hc := Clo_app hJ hv h.1 hs.2.2
    have hr := TG_room hp h hs
    obtain ⟨o0, o1, o2⟩ := oN_s (T := TT W H C l t) hJ hv
    have hA := aA_b (T := TT W H C l t) hJ hv (oN (Ins W H C l) (TT W H C l t) ((x : Int), (y : Int), 0))
    obtain ⟨h1, h2, h3, h4⟩ := h
    generalize hJd : Ins W H C l = J at *
    generalize hTd : TT W H C l t = K at *
    generalize hsd : (((x : Int), (y : Int), (0 : Int)) : Sd) = s at *
    generalize hN : oN J K s = N at *
    have hlen : (ol J K s).length = N := by rw [ol_len, hN]
    refine cI_s (P := fun Z => TG W H C t l Z) (fun _ => ?_) (fun _ => ?_)
    · refine ⟨by rw [hJd, hTd]; exact hc, ⟨?_, ?_⟩, ?_, ?_⟩
      · dsimp only
        rw [upN_f _ _ (by omega)]; exact h2.1
      · intro o ho
        have ho : o < T.1 + 1 := ho
        dsimp only
        by_cases e : o = T.1
        · subst e
          rw [upN_f _ _ (by omega), upN_t, upN_t, upN_t, Nat.add_sub_cancel_left]
          refine ⟨by omega, ⟨by omega, by omega, by omega, fun i hi => ?_⟩, by omega, by omega⟩
          have hb := sV_box hJ (it_V (T := K) hv i)
          have hW := hJ.1; have hH := hJ.2.1
          rw [ext_f, ext_f, ext_f, ext_f]
          refine ⟨by omega, ?_⟩
          have e2 : it J K s ((i + 1) % N) = it J K s (i + 1) := by
            by_cases e : i + 1 = N
            · rw [e, Nat.mod_self, o1]; rfl
            · rw [Nat.mod_eq_of_lt (by omega)]
          rw [e2]
          have hx := nx_xy J K (it J K s i)
          have e3 : it J K s (i + 1) = nx J K (it J K s i) := rfl
          rw [e3, hx.1, hx.2]
          unfold unitS
          rcases dd1 (it_V (T := K) hv i).1 with z | z | z | z <;> rw [z.1, z.2.1] <;> omega
        · have q := h2.2 o (by omega)
          have m := OGs_mono h2 (o := o + 1) (o' := T.1) (by omega) (by omega)
          rw [upN_f _ _ (by omega), upN_f _ _ (by omega), upN_f _ _ e, upN_f _ _ e]
          refine ⟨q.1, ⟨q.2.1.1, q.2.1.2.1, q.2.1.2.2.1, fun i hi => ?_⟩, q.2.2⟩
          have hm : (i + 1) % (T.2.1 (o + 1) - T.2.1 o) < T.2.1 (o + 1) - T.2.1 o := Nat.mod_lt _ (by omega)
          rw [ext_t (by omega), ext_t (by omega), ext_t (by omega), ext_t (by omega)]
          exact q.2.1.2.2.2 i hi
      · dsimp only
        rw [upN_t, List.length_append]; omega
      · dsimp only
        rw [upN_t, List.length_append]; omega
    · refine ⟨by rw [hJd, hTd]; exact hc, h2, ?_, ?_⟩
      · dsimp only
        rw [List.length_append]; omega
      · dsimp only
        rw [List.length_append]; omega
  · rw [cI_f hs]; exact h
theorem TG_sx {W H : Nat} {C : Nat → Nat → Int} {t sp : Int} {l : Nat} {T : TS} (hp : Pic W H C) (hl : 1 ≤ l ∧ l ≤ 7) (h : TG W H C t l T) (y k : Nat) : TG W H C t l (sxT W H C t sp l y T k) := by
  induction k with
  | zero => exact h
  | succ k ih => exact TG_st hp hl ih k y
theorem TG_sy {W H : Nat} {C : Nat → Nat → Int} {t sp : Int} {l : Nat} {T : TS} (hp : Pic W H C) (hl : 1 ≤ l ∧ l ≤ 7) (h : TG W H C t l (syT W H C t sp l T 0)) (k : Nat) : TG W H C t l (syT W H C t sp l T k) := by
  induction k with
  | zero => exact h
  | succ k ih => exact TG_sx hp hl ih k W
-- between layers
def TB (W H : Nat) (l : Nat) (T : TS) : Prop := OGs W H T.1 T.2.1 T.2.2.1 T.2.2.2.1 T.2.2.2.2.1 T.2.2.2.2.2.1 ∧ T.2.1 T.1 ≤ l * 512 ∧ T.2.1 T.1 ≤ l * (W * (H + 1) + H * (W + 1))
theorem TB_in {W H : Nat} {C : Nat → Nat → Int} {t sp : Int} {l : Nat} {T : TS} (h : TB W H l T) : TG W H C t (l + 1) (syT W H C t sp ((l + 1 : Nat) : Int) T 0) := by
  obtain ⟨h1, h2, h3⟩ := h
  refine ⟨⟨List.Pairwise.nil, fun t ht => absurd ht (List.not_mem_nil)⟩, h1, ?_, ?_⟩
  · show T.2.1 T.1 + 512 ≤ (l + 1) * 512 + 0; omega
  · show T.2.1 T.1 + (W * (H + 1) + H * (W + 1)) ≤ (l + 1) * (W * (H + 1) + H * (W + 1)) + 0
    rw [Nat.add_mul, Nat.one_mul]; omega
theorem TG_out {W H : Nat} {C : Nat → Nat → Int} {t : Int} {l : Nat} {T : TS} (hp : Pic W H C) (h : TG W H C t l T) : TB W H l T := by
  obtain ⟨h1, h2, h3, h4⟩ := h
  have := vis_len (Ins_box hp l) h1.1 (fun s hs => (h1.2 s hs).1)
  exact ⟨h2, by omega, by omega⟩
def T00 : TS := (0, fun _ => 0, fun _ => 0, fun _ => 0, fun _ => 0, fun _ => 0, [])
theorem TB_0 (W H : Nat) : TB W H 0 T00 := ⟨⟨rfl, fun o ho => absurd ho (Nat.not_lt_zero o)⟩, Nat.zero_le _, Nat.zero_le _⟩
theorem TB_sl {W H : Nat} {C : Nat → Nat → Int} {t sp : Int} (hp : Pic W H C) (k : Nat) (hk : k ≤ 7) : TB W H k (slT W H C t sp T00 k) := by
  induction k with
  | zero => exact TB_0 W H
  | succ k ih => exact TG_out hp (TG_sy (t := t) (sp := sp) hp (by omega) (TB_in (ih (by omega))) H)
