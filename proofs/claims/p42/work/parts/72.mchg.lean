/-! the reference: two rows change places -/
def swL (L : Nat → Nat → Int) (i j k : Nat) : Nat → Int := if k = i then L j else if k = j then L i else L k
def swC (C : zC) (i j : Nat) : zC := (cW C, cH C, cN C, cP C, swL (cL C) i j)
def swP (i j k p : Nat) : Nat := if 259 + 32 * i ≤ p ∧ p < 259 + 32 * i + k then p + 32 * j - 32 * i else if 259 + 32 * j ≤ p ∧ p < 259 + 32 * j + k then p + 32 * i - 32 * j else p
theorem sw_up (L : Nat → Nat → Int) {f k : Nat} (h : f ≤ k) : swL (lMv L f k) k (k + 1) = lMv L f (k + 1) := by
  funext p
  unfold swL lMv
  by_cases e1 : p = k
  · rw [if_pos e1]
    congr 1
    unfold mvN
    repeat' split
    all_goals omega
  · rw [if_neg e1]
    by_cases e2 : p = k + 1
    · rw [if_pos e2]
      congr 1
      unfold mvN
      rw [if_pos rfl, if_pos e2]
    · rw [if_neg e2]
      congr 1
      unfold mvN
      repeat' split
      all_goals omega
theorem sw_down (L : Nat → Nat → Int) {f k : Nat} (h : k + 1 ≤ f) : swL (lMv L f (k + 1)) (k + 1) k = lMv L f k := by
  funext p
  unfold swL lMv
  by_cases e1 : p = k + 1
  · rw [if_pos e1]
    congr 1
    unfold mvN
    repeat' split
    all_goals omega
  · rw [if_neg e1]
    by_cases e2 : p = k
    · rw [if_pos e2]
      congr 1
      unfold mvN
      rw [if_pos rfl, if_pos e2]
    · rw [if_neg e2]
      congr 1
      unfold mvN
      repeat' split
      all_goals omega
theorem mv_self (C : zC) (f : Nat) : mvC C f f = C := by
  have : lMv (cL C) f f = cL C := by
    funext p
    unfold lMv
    congr 1
    unfold mvN
    by_cases e : p = f
    · rw [if_pos e, e]
    · rw [if_neg e, if_neg (by omega), if_neg (by omega)]
  unfold mvC
  rw [this]
  rfl
