/-! the reference: neighbourhoods -/
theorem lin256 {w h x y : Nat} (hw : w ≤ 16) (hh : h ≤ 16) (hx : x < w) (hy : y < h) : y * w + x < 256 := by
  have h1 := lin_ix hx hy
  have h2 : h * w ≤ 16 * 16 := Nat.mul_le_mul hh hw
  omega
/-- how many places of the neighbourhood come before (i, j) of its square -/
def kNb (w h x y r j i : Nat) : Nat := min (j - (r - y)) (nbW h y r) * nbW w x r + if r - y ≤ j ∧ j < r - y + nbW h y r then min (i - (r - x)) (nbW w x r) else 0
theorem kNb_0 {w h x y r : Nat} : kNb w h x y r 0 0 = 0 := by
  unfold kNb
  rw [Nat.zero_sub, Nat.zero_min, Nat.zero_mul]
  split
  · rw [Nat.zero_sub, Nat.zero_min]
  · rfl
theorem kNb_in {w h x y r j i : Nat} (px : Nat → Nat → Int) (hj : r - y ≤ j ∧ j < r - y + nbW h y r) (hi : r - x ≤ i ∧ i < r - x + nbW w x r) : kNb w h x y r j (i + 1) = kNb w h x y r j i + 1 ∧ kNb w h x y r j i < nbN w h x y r ∧ nbF w px x y r (kNb w h x y r j i) = px (x - r + (i - (r - x))) (y - r + (j - (r - y))) := by
  have e1 : kNb w h x y r j i = (j - (r - y)) * nbW w x r + (i - (r - x)) := by
    unfold kNb
    rw [if_pos hj, Nat.min_eq_left (by omega), Nat.min_eq_left (by omega)]
  have e2 : kNb w h x y r j (i + 1) = (j - (r - y)) * nbW w x r + (i + 1 - (r - x)) := by
    unfold kNb
    rw [if_pos hj, Nat.min_eq_left (by omega), Nat.min_eq_left (by omega)]
  refine ⟨by rw [e1, e2]; omega, ?_, ?_⟩
  · rw [e1]
    exact lin_ix (show i - (r - x) < nbW w x r by omega) (show j - (r - y) < nbW h y r by omega)
  · rw [e1]
    unfold nbF
    rw [lin_at _ (show i - (r - x) < nbW w x r by omega)]
theorem kNb_out {w h x y r j i : Nat} (hji : ¬ ((r - y ≤ j ∧ j < r - y + nbW h y r) ∧ r - x ≤ i ∧ i < r - x + nbW w x r)) : kNb w h x y r j (i + 1) = kNb w h x y r j i := by
  unfold kNb
  by_cases hj : r - y ≤ j ∧ j < r - y + nbW h y r
  · rw [if_pos hj, if_pos hj]
    congr 1
    omega
  · rw [if_neg hj, if_neg hj]
theorem kNb_row {w h x y r j : Nat} (hx : x < w) : kNb w h x y r j (2 * r + 1) = kNb w h x y r (j + 1) 0 := by
  have hW : r - x + nbW w x r ≤ 2 * r + 1 := by unfold nbW; omega
  unfold kNb
  have e0 : min (0 - (r - x)) (nbW w x r) = 0 := by omega
  rw [e0]
  have e1 : (if r - y ≤ j + 1 ∧ j + 1 < r - y + nbW h y r then 0 else 0) = 0 := by split <;> rfl
  rw [e1]
  by_cases hj : r - y ≤ j ∧ j < r - y + nbW h y r
  · rw [if_pos hj, Nat.min_eq_right (show nbW w x r ≤ 2 * r + 1 - (r - x) by omega), show min (j + 1 - (r - y)) (nbW h y r) = min (j - (r - y)) (nbW h y r) + 1 by omega, Nat.succ_mul, Nat.add_zero]
  · rw [if_neg hj, show min (j + 1 - (r - y)) (nbW h y r) = min (j - (r - y)) (nbW h y r) by omega]
theorem kNb_end {w h x y r : Nat} (hy : y < h) : kNb w h x y r (2 * r + 1) 0 = nbN w h x y r := by
  have hH : r - y + nbW h y r ≤ 2 * r + 1 := by unfold nbW; omega
  unfold kNb nbN
  rw [if_neg (by omega), Nat.add_zero, Nat.min_eq_right (by omega)]
theorem kNb_zin {w x r i : Nat} (hx : x < w) (hw : w ≤ 16) (hr : r ≤ 3) (hi : i < 2 * r + 1) : zin (iI ((x : Int) - r + i)) w ↔ r - x ≤ i ∧ i < r - x + nbW w x r := by
  unfold zin nbW
  rw [i_toInt (by omega) (by omega)]
  omega
theorem kNb_nI {w x r i : Nat} (h : r - x ≤ i ∧ i < r - x + nbW w x r) : iI ((x : Int) - r + i) = nI (x - r + (i - (r - x))) := by
  rw [i_nI]
  congr 1
  omega
