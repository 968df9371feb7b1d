/-! requests: the reference's stack -/
theorem clipM {a w : Nat} (ha : a < 1000) (hw : 1 ≤ w) (hw2 : w < 1000) (f : Int32 → zO) [Decidable (nI a < nI w)] : (if nI a < nI w then f (nI a) else f (nI w - 1)) = f (nI (min a (w - 1))) := by
  have e : (nI a < nI w) ↔ a < w := n_lt (by omega) (by omega)
  by_cases h : a < w
  · rw [if_pos (e.mpr h), show min a (w - 1) = a by omega]
  · rw [if_neg (fun q => h (e.mp q)), show min a (w - 1) = w - 1 by omega]
    congr 1
    exact nI_sub (b := 1) (by omega)
/-- what requests work on -/
def inQ (m a : Nat) : Prop := a = m ∨ (m + 6 ≤ a ∧ a ≤ m + 16)
def inF (m a : Nat) : Prop := m + 8 ≤ a ∧ a ≤ m + 16
/-- requests leave the rest, and the frames below f -/
def KQ (m f : Nat) (σ τ : zS) : Prop := zFr (inQ m) σ τ ∧ (∀ g, g ≠ 587 → g ≠ 598 → zi τ g m = zi σ g m) ∧ zai τ (m + 7) 2 = zai σ (m + 7) 2 ∧ ∀ a, inF m a → ∀ p, p < f → zai τ a p = zai σ a p
theorem KQ.rf {m f : Nat} (σ : zS) : KQ m f σ σ := ⟨zFr.rf σ, fun _ _ _ => rfl, rfl, fun _ _ _ _ => rfl⟩
theorem KQ.tr {m f f' : Nat} {σ τ υ : zS} (h : KQ m f σ τ) (g : KQ m f' τ υ) (hf : f ≤ f') : KQ m f σ υ := ⟨h.1.tr g.1, fun k a b => (g.2.1 k a b).trans (h.2.1 k a b), g.2.2.1.trans h.2.2.1, fun a ha p hp => (g.2.2.2 a ha p (by omega)).trans (h.2.2.2 a ha p hp)⟩
theorem KQ.sf {m f a i : Nat} {v : Int32} (σ : zS) (ha : inF m a) (hi : f ≤ i) : KQ m f σ (zsa σ a i v) := ⟨zFr.sa σ (by unfold inF at ha; unfold inQ; omega), fun _ _ _ => rfl, by rw [zai_sa, if_neg (by unfold inF at ha; omega)], fun b _ p hp => by rw [zai_sa, if_neg (by omega)]⟩
theorem KQ.sd {m f : Nat} {v : Int32} (σ : zS) : KQ m f σ (zsi σ 598 m v) := ⟨zFr.si σ (Or.inl rfl), fun g _ hg => by rw [zi_si, if_neg (by omega)], rfl, fun _ _ _ _ => rfl⟩
/-- a frame is laid -/
def pshS (σ : zS) (m f : Nat) (x y : Int32) : zS := zsi (zsa (zsa (zsa σ (m + 8) f x) (m + 9) f y) (m + 16) f 0) 598 m (nI (f + 1))
/-- a tile is used -/
def useS (σ : zS) (m k t : Nat) : zS := zsa (zsi σ 587 m (nI (t + 1))) (m + 6) k (nI (t + 1))
/-- a frame is begun -/
def begS (σ : zS) (m f : Nat) (b : Int32) (c0 c1 r0 r1 : Nat) : zS := zsa (zsa (zsa (zsa (zsa (zsa (zsa σ (m + 16) f 1) (m + 10) f b) (m + 11) f (nI c0)) (m + 14) f (nI c0)) (m + 15) f (nI r0)) (m + 12) f (nI c1)) (m + 13) f (nI r1)
