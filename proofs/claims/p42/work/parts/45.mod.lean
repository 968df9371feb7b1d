/-! the reference: its rows, one behind another -/
def MA (σ : zS) (m f j k n : Nat) : Prop := zr σ f m = some (m + j) ∧ zkd σ (m + j) = k ∧ zln σ (m + j) = n
theorem MA.fr {P : Nat → Prop} {σ τ : zS} {m f j k n : Nat} (h : MA σ m f j k n) (g : zFr P σ τ) : MA τ m f j k n := by
  unfold MA
  rw [g.r, g.kd, g.ln]
  exact h
/-- a composition in a row of 515 ints, from b on -/
theorem zb_in {x : Int32} {n : Nat} (hn : n < 1000) (h0 : 1 ≤ n) : zb ((0 : Int32) ≤ x ∧ x ≤ nI n - 1) = zb (zin x n) := by
  have e : nI n - 1 = nI (n - 1) := by rw [show (1 : Int32) = nI 1 from rfl, nI_sub h0]
  have h1 : ((0 : Int32) ≤ x) ↔ 0 ≤ x.toInt := Int32.le_iff_toInt_le
  have h2 : (x ≤ nI (n - 1)) ↔ x.toInt ≤ ((n - 1 : Nat) : Int) := by rw [Int32.le_iff_toInt_le, nI_toInt (by omega)]
  rw [e]
  unfold zb zin
  simp only [h1, h2]
  by_cases c : 0 ≤ x.toInt ∧ x.toInt ≤ ((n - 1 : Nat) : Int)
  · rw [if_pos c, if_pos (by omega)]
  · rw [if_neg c, if_neg (by omega)]
theorem p_in {x : Int32} {n : Nat} (hn : n < 1000) (h0 : 1 ≤ n) : ((0 : Int32) ≤ x ∧ x ≤ nI n - 1) ↔ zin x n := by
  have e : nI n - 1 = nI (n - 1) := by rw [show (1 : Int32) = nI 1 from rfl, nI_sub h0]
  have h1 : ((0 : Int32) ≤ x) ↔ 0 ≤ x.toInt := Int32.le_iff_toInt_le
  have h2 : (x ≤ nI (n - 1)) ↔ x.toInt ≤ ((n - 1 : Nat) : Int) := by rw [Int32.le_iff_toInt_le, nI_toInt (by omega)]
  rw [e, h1, h2]
  unfold zin
  omega
theorem zb_in0 {x : Int32} : zb ((0 : Int32) ≤ x ∧ x ≤ nI 0 - 1) = zb (zin x 0) := by
  have h1 : ((0 : Int32) ≤ x) ↔ 0 ≤ x.toInt := Int32.le_iff_toInt_le
  have h2 : (x ≤ nI 0 - 1) ↔ x.toInt ≤ -1 := by rw [Int32.le_iff_toInt_le]; rfl
  unfold zb zin
  simp only [h1, h2]
  rw [if_neg (by omega), if_neg (by omega)]
