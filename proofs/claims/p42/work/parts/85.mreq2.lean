theorem fz {f : Nat} (hf : f < 9) : zin (nI f) 9 = True := eq_true ((n_zin (by omega)).mpr hf)
/-- one turn over a fresh frame whose tile is not there -/
theorem useS.fr {P : Nat → Prop} (σ : zS) {m k t : Nat} (h1 : P m) (h2 : P (m + 6)) : zFr P σ (useS σ m k t) := by
  unfold useS
  exact (zFr.si σ h1).tr (zFr.sa _ h2)
/-- a begun frame: where it stands -/
def BGf (σ : zS) (m f l t : Nat) (b : Int32) (c0 c1 r1 x y : Nat) : Prop := zai σ (m + 8) f = nI l ∧ zai σ (m + 9) f = nI t ∧ zai σ (m + 16) f = 1 ∧ zai σ (m + 10) f = b ∧ zai σ (m + 11) f = nI c0 ∧ zai σ (m + 12) f = nI c1 ∧ zai σ (m + 13) f = nI r1 ∧ zai σ (m + 14) f = nI x ∧ zai σ (m + 15) f = nI y
def BG (σ : zS) (m f l t : Nat) (b : Int32) (c0 c1 r1 x y : Nat) : Prop := zi σ 598 m = nI (f + 1) ∧ BGf σ m f l t b c0 c1 r1 x y
theorem BGf.kq {σ τ : zS} {m f l t : Nat} {b : Int32} {c0 c1 r1 x y : Nat} (h : BGf σ m f l t b c0 c1 r1 x y) (k : KQ m (f + 1) σ τ) : BGf τ m f l t b c0 c1 r1 x y := by
  obtain ⟨a2, a3, a4, a5, a6, a7, a8, a9, a10⟩ := h
  have e : ∀ j, 8 ≤ j → j ≤ 16 → zai τ (m + j) f = zai σ (m + j) f := fun j h1 h2 => k.2.2.2 (m + j) (by unfold inF; omega) f (by omega)
  exact ⟨(e 8 (by decide) (by decide)).trans a2, (e 9 (by decide) (by decide)).trans a3, (e 16 (by decide) (by decide)).trans a4, (e 10 (by decide) (by decide)).trans a5, (e 11 (by decide) (by decide)).trans a6, (e 12 (by decide) (by decide)).trans a7, (e 13 (by decide) (by decide)).trans a8, (e 14 (by decide) (by decide)).trans a9, (e 15 (by decide) (by decide)).trans a10⟩
/-- a turn of a begun frame that asks for one more tile -/
theorem itC_R {C : zC} {sd n k : Nat} {f : Nat → zU → zU} (s : zU) (h : ∀ i s, i < k → RQ C sd n 1 s (f i s)) (hk : k ≤ 8) : RQ C sd n 8 s (itC f k s) := (rq_itC (m := 1) k s h).mono (Nat.le_refl _) (by omega)
