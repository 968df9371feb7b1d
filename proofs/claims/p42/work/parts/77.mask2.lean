/-! what-if questions: the reference's side -/
def inMB (m a : Nat) : Prop := a = m ∨ (m + 17 ≤ a ∧ a < m + 22)
def BV (σ : zS) (m w h : Nat) (px : Nat → Nat → Int) : Prop := ∀ k, k < h * w → zai σ (m + 20) k = iI (lin w px k)
theorem BV.fr {P : Nat → Prop} {σ τ : zS} {m w h : Nat} {px : Nat → Nat → Int} (H : BV σ m w h px) (g : zFr P σ τ) (hn : ¬ P (m + 20)) : BV τ m w h px := fun k hk => (g.ai hn _).trans (H k hk)
theorem neI_comm (a b : Int) : neI a b = neI b a := by
  unfold neI
  by_cases h : a = b
  · rw [if_pos h, if_pos h.symm]
  · rw [if_neg h, if_neg (fun q => h q.symm)]
theorem dI_comm (a b : Int) : dI a b = dI b a := by
  unfold dI
  by_cases h1 : a - b < 0
  · rw [if_pos h1, if_neg (by omega)]; omega
  · rw [if_neg h1]
    by_cases h2 : b - a < 0
    · rw [if_pos h2]; omega
    · rw [if_neg h2]; omega
theorem lin_two (w : Nat) (f : Int → Int → Int) (px qx : Nat → Nat → Int) (k : Nat) : lin w (fun x y => f (px x y) (qx x y)) k = f (lin w px k) (lin w qx k) := rfl
theorem up_back (l : Nat → Int) (j : Nat) (v : Int) : upR (upR l j v) j (l j) = l := by
  funext i
  unfold upR
  by_cases e : i = j
  · rw [if_pos e, e]
  · rw [if_neg e, if_neg e]
theorem sw_mv (C : zC) (k : Nat) : swC C k (k + 1) = mvC C k (k + 1) := by
  have h := sw_up (cL C) (f := k) (k := k) (Nat.le_refl _)
  have e : lMv (cL C) k k = cL C := congrArg cL (mv_self C k)
  rw [e] at h
  unfold swC mvC
  rw [h]
theorem sw_sw (C : zC) (i j : Nat) (h : i ≠ j) : swC (swC C i j) i j = C := by
  have : swL (swL (cL C) i j) i j = cL C := by
    funext k
    unfold swL
    by_cases e1 : k = i
    · rw [if_pos e1, if_neg (fun q => h q.symm), if_pos rfl, e1]
    · rw [if_neg e1]
      by_cases e2 : k = j
      · rw [if_pos e2, if_pos rfl, e2]
      · rw [if_neg e2, if_neg e1, if_neg e2]
  show (cW C, cH C, cN C, cP C, swL (swL (cL C) i j) i j) = C
  rw [this]
  rfl
