/-! pixel, prefetch: the reference -/
theorem KQ.m {m f : Nat} {σ τ : zS} (k : KQ m f σ τ) : zFr (fun a => m ≤ a ∧ a < m + 22) σ τ := k.1.mono (fun a ha => by unfold inQ at ha; omega)
