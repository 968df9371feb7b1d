/-- the cells that computing changes -/
def inM (m a : Nat) : Prop := a = m ∨ a = m + 17 ∨ a = m + 18
def keepM (m : Nat) (σ τ : zS) : Prop := ∀ f, f ≠ 601 → f ≠ 602 → zi τ f m = zi σ f m
theorem lin_inj {w x y x' y' : Nat} (hx : x < w) (hx' : x' < w) (h : y' * w + x' = y * w + x) : x' = x ∧ y' = y := by
  have h1 : (y' * w + x') % w = x' := by rw [Nat.mul_comm, Nat.mul_add_mod, Nat.mod_eq_of_lt hx']
  have h2 : (y * w + x) % w = x := by rw [Nat.mul_comm, Nat.mul_add_mod, Nat.mod_eq_of_lt hx]
  have e : x' = x := by rw [← h1, ← h2, h]
  refine ⟨e, ?_⟩
  have h3 : y' * w = y * w := by omega
  exact Nat.eq_of_mul_eq_mul_right (by omega) h3
