/-! the law's object: what holds of it between two calls -/
/-- the object at o in the state A, the script xs of n ints at b -/
def LI (b o n : Nat) (xs : Nat → Int32) (σ : zS) (A : zW) (B : Nat) : Prop := GA A B ∧ LG A ∧ KT A ∧ (∃ q u P, CIx σ o A q u P) ∧ StK σ o ∧ (b < o ∧ zkd σ b = 16 ∧ zln σ b = n ∧ ∀ i, i < n → zai σ b i = xs i) ∧ o + 257 ≤ znx σ
theorem GA.mono {A : zW} {B B' : Nat} (h : GA A B) (hB : B ≤ B') : GA A B' := by
  obtain ⟨h1, h2, h3, h4, h5, h6, h7, h8, h9⟩ := h
  exact ⟨h1, h2, h3, h4, h5, h6, h7, h8, Nat.le_trans h9 hB⟩
theorem LI.mono {b o n : Nat} {xs : Nat → Int32} {σ : zS} {A : zW} {B B' : Nat} (h : LI b o n xs σ A B) (hB : B ≤ B') : LI b o n xs σ A B' := ⟨h.1.mono hB, h.2⟩
theorem LI.o8 {b o n : Nat} {xs : Nat → Int32} {σ : zS} {A : zW} {B : Nat} (h : LI b o n xs σ A B) : zkd σ o = 8 := by
  obtain ⟨q, u, P, hI⟩ := h.2.2.2.1
  exact hI.1.1.f.1
theorem LI.call {b o n : Nat} {xs : Nat → Int32} {σ : zS} {A A' : zW} {B B' : Nat} {r : Int32} {z : zO} (h : LI b o n xs σ A B) (hG' : GA A' B') (hL' : LG A') (hK' : KT A') (h1 : ∀ q u P, CIx σ o A q u P → zOS o z r A' σ) : ∃ τ, z = some (some (.inl r), τ) ∧ LI b o n xs τ A' B' := by
  obtain ⟨hG, hL, hK, ⟨q, u, P, hI⟩, hS, ⟨hbo, hbk, hbl, hxs⟩, hnx⟩ := h
  obtain ⟨τ, q', u', P', k1, k2, k3, k4⟩ := h1 q u P hI
  exact ⟨τ, k1, hG', hL', hK', ⟨q', u', P', k2⟩, hS.eq k3 (fun a ha => Or.inl ha), ⟨hbo, (k3.kd (Or.inl hbo)).trans hbk, (k3.ln (Or.inl hbo)).trans hbl, fun i hi => (k3.ai (Or.inl hbo) i).trans (hxs i hi)⟩, by omega⟩
theorem w_newImage {b o n : Nat} {xs : Nat → Int32} {σ : zS} {A : zW} {B : Nat} (h : LI b o n xs σ A B) (hB : B < 2 ^ 29) (x1 x2 : Int32) (d : Nat) : ∃ τ, zEv (d + 30) mX10_newImage [.inr (.inl (some o)), .inl x1, .inl x2] σ = some (some (.inl (rNew x1 x2)), τ) ∧ LI b o n xs τ (tNew A x1 x2) B :=
  h.call (h.1.new x1 x2) (LG.new h.2.1 x1 x2) (KT.new h.2.2.1 x1 x2) (fun q u P hI => (c_newImage h.1 (by omega) hI x1 x2 (d + 10)).os)
theorem w_setPixel {b o n : Nat} {xs : Nat → Int32} {σ : zS} {A : zW} {B : Nat} (h : LI b o n xs σ A B) (hB : B < 2 ^ 29) (x1 x2 x3 : Int32) (d : Nat) : ∃ τ, zEv (d + 30) mX10_setPixel [.inr (.inl (some o)), .inl x1, .inl x2, .inl x3] σ = some (some (.inl (rPix A x1 x2 x3)), τ) ∧ LI b o n xs τ (tPix A x1 x2 x3) B :=
  h.call (h.1.pix x1 x2 x3) (LG.pix h.2.1 x1 x2 x3) (KT.pix h.2.2.1 x1 x2 x3) (fun q u P hI => (c_setPixel h.1 (by omega) hI x1 x2 x3 (d + 10)).os)
theorem w_fillRectangle {b o n : Nat} {xs : Nat → Int32} {σ : zS} {A : zW} {B : Nat} (h : LI b o n xs σ A B) (hB : B < 2 ^ 29) (x1 x2 x3 x4 x5 : Int32) (d : Nat) : ∃ τ, zEv (d + 30) mX10_fillRectangle [.inr (.inl (some o)), .inl x1, .inl x2, .inl x3, .inl x4, .inl x5] σ = some (some (.inl (rFil A x1 x2 x3 x4 x5)), τ) ∧ LI b o n xs τ (tFil A x1 x2 x3 x4 x5) B :=
  h.call (h.1.fil x1 x2 x3 x4 x5) (LG.fil h.2.1 x1 x2 x3 x4 x5) (KT.fil h.2.2.1 x1 x2 x3 x4 x5) (fun q u P hI => (c_fillRectangle h.1 (by omega) hI x1 x2 x3 x4 x5 (d + 10)).os)
theorem w_size {b o n : Nat} {xs : Nat → Int32} {σ : zS} {A : zW} {B : Nat} (h : LI b o n xs σ A B) (hB : B < 2 ^ 29) (x1 : Int32) (d : Nat) : ∃ τ, zEv (d + 30) mX10_size [.inr (.inl (some o)), .inl x1] σ = some (some (.inl (rSize A x1)), τ) ∧ LI b o n xs τ A B :=
  h.call h.1 h.2.1 h.2.2.1 (fun q u P hI => (c_size h.1 hI x1 (d + 10)).os)
theorem w_addLayer {b o n : Nat} {xs : Nat → Int32} {σ : zS} {A : zW} {B : Nat} (h : LI b o n xs σ A B) (hB : B < 2 ^ 29) (x1 x2 x3 : Int32) (d : Nat) : ∃ τ, zEv (d + 30) mX10_addLayer [.inr (.inl (some o)), .inl x1, .inl x2, .inl x3] σ = some (some (.inl (rAdd A x1 x2 x3)), τ) ∧ LI b o n xs τ (tAdd A x1 x2 x3) B :=
  h.call (h.1.add x1 x2 x3) (LG.add h.2.1 x1 x2 x3) (KT.add h.2.2.1 x1 x2 x3) (fun q u P hI => (c_addLayer h.1 h.2.2.2.2.1 hI x1 x2 x3 (d + 10)).os)
theorem w_setBlend {b o n : Nat} {xs : Nat → Int32} {σ : zS} {A : zW} {B : Nat} (h : LI b o n xs σ A B) (hB : B < 2 ^ 29) (x1 x2 x3 : Int32) (d : Nat) : ∃ τ, zEv (d + 30) mX10_setBlend [.inr (.inl (some o)), .inl x1, .inl x2, .inl x3] σ = some (some (.inl (rBlend A x1 x2 x3)), τ) ∧ LI b o n xs τ (tBlend A x1 x2 x3) B :=
  h.call (h.1.blend x1 x2 x3) (LG.blend h.2.1 x1 x2 x3) (KT.blend h.2.2.1 x1 x2 x3) (fun q u P hI => (c_setBlend h.1 (by omega) hI x1 x2 x3 (d + 10)).os)
theorem w_setEnabled {b o n : Nat} {xs : Nat → Int32} {σ : zS} {A : zW} {B : Nat} (h : LI b o n xs σ A B) (hB : B < 2 ^ 29) (x1 x2 : Int32) (d : Nat) : ∃ τ, zEv (d + 30) mX10_setEnabled [.inr (.inl (some o)), .inl x1, .inl x2] σ = some (some (.inl (rEn A x1 x2)), τ) ∧ LI b o n xs τ (tEn A x1 x2) B :=
  h.call (h.1.en x1 x2) (LG.en h.2.1 x1 x2) (KT.en h.2.2.1 x1 x2) (fun q u P hI => (c_setEnabled h.1 (by omega) hI x1 x2 (d + 10)).os)
theorem w_moveLayer {b o n : Nat} {xs : Nat → Int32} {σ : zS} {A : zW} {B : Nat} (h : LI b o n xs σ A B) (hB : B < 2 ^ 29) (x1 x2 : Int32) (d : Nat) : ∃ τ, zEv (d + 30) mX10_moveLayer [.inr (.inl (some o)), .inl x1, .inl x2] σ = some (some (.inl (rMv A x1 x2)), τ) ∧ LI b o n xs τ (tMv A x1 x2) B :=
  h.call (h.1.mv x1 x2) (LG.mv h.2.1 x1 x2) (KT.mv h.2.2.1 x1 x2) (fun q u P hI => (c_moveLayer h.1 (by omega) hI x1 x2 (d + 10)).os)
theorem w_duplicateLayer {b o n : Nat} {xs : Nat → Int32} {σ : zS} {A : zW} {B : Nat} (h : LI b o n xs σ A B) (hB : B < 2 ^ 29) (x1 : Int32) (d : Nat) : ∃ τ, zEv (d + 30) mX10_duplicateLayer [.inr (.inl (some o)), .inl x1] σ = some (some (.inl (rDup A x1)), τ) ∧ LI b o n xs τ (tDup A x1) B :=
  h.call (h.1.dup x1) (LG.dup h.2.1 x1) (KT.dup h.2.2.1 x1) (fun q u P hI => (c_duplicateLayer h.1 (by omega) hI x1 (d + 10)).os)
theorem w_removeLayer {b o n : Nat} {xs : Nat → Int32} {σ : zS} {A : zW} {B : Nat} (h : LI b o n xs σ A B) (hB : B < 2 ^ 29) (x1 : Int32) (d : Nat) : ∃ τ, zEv (d + 30) mX10_removeLayer [.inr (.inl (some o)), .inl x1] σ = some (some (.inl (rRem A x1)), τ) ∧ LI b o n xs τ (tRem A x1) B :=
  h.call (h.1.rem x1) (LG.rem h.2.1 x1) (KT.rem h.2.2.1 x1) (fun q u P hI => (c_removeLayer h.1 (by omega) hI x1 (d + 10)).os)
theorem w_flatten {b o n : Nat} {xs : Nat → Int32} {σ : zS} {A : zW} {B : Nat} (h : LI b o n xs σ A B) (hB : B < 2 ^ 29) (x1 : Int32) (d : Nat) : ∃ τ, zEv (d + 30) mX10_flatten [.inr (.inl (some o)), .inl x1] σ = some (some (.inl (rFla A x1)), τ) ∧ LI b o n xs τ (tFla A x1) B :=
  h.call (h.1.fla x1) (LG.fla h.2.1 x1) (KT.fla h.2.2.1 x1) (fun q u P hI => (c_flatten h.1 (by omega) hI x1 (d + 10)).os)
theorem w_layer {b o n : Nat} {xs : Nat → Int32} {σ : zS} {A : zW} {B : Nat} (h : LI b o n xs σ A B) (hB : B < 2 ^ 29) (x1 x2 : Int32) (d : Nat) : ∃ τ, zEv (d + 30) mX10_layer [.inr (.inl (some o)), .inl x1, .inl x2] σ = some (some (.inl (rLyr A x1 x2)), τ) ∧ LI b o n xs τ A B :=
  h.call h.1 h.2.1 h.2.2.1 (fun q u P hI => (c_layer h.1 hI x1 x2 (d + 10)).os)
theorem w_setMask {b o n : Nat} {xs : Nat → Int32} {σ : zS} {A : zW} {B : Nat} (h : LI b o n xs σ A B) (hB : B < 2 ^ 29) (x1 x2 x3 x4 x5 x6 : Int32) (d : Nat) : ∃ τ, zEv (d + 30) mX10_setMask [.inr (.inl (some o)), .inl x1, .inl x2, .inl x3, .inl x4, .inl x5, .inl x6] σ = some (some (.inl (rMask A x1 x2 x3 x4 x5 x6)), τ) ∧ LI b o n xs τ (tMask A x1 x2 x3 x4 x5 x6) B :=
  h.call (h.1.mask x1 x2 x3 x4 x5 x6) (LG.mask h.2.1 x1 x2 x3 x4 x5 x6) (KT.mask h.2.2.1 x1 x2 x3 x4 x5 x6) (fun q u P hI => (c_setMask h.1 (by omega) hI x1 x2 x3 x4 x5 x6 (d + 10)).os)
theorem w_setFeather {b o n : Nat} {xs : Nat → Int32} {σ : zS} {A : zW} {B : Nat} (h : LI b o n xs σ A B) (hB : B < 2 ^ 29) (x1 x2 : Int32) (d : Nat) : ∃ τ, zEv (d + 30) mX10_setFeather [.inr (.inl (some o)), .inl x1, .inl x2] σ = some (some (.inl (rFeather A x1 x2)), τ) ∧ LI b o n xs τ (tFeather A x1 x2) B :=
  h.call (h.1.feather x1 x2) (LG.feather h.2.1 x1 x2) (KT.feather h.2.2.1 x1 x2) (fun q u P hI => (c_setFeather h.1 (by omega) hI x1 x2 (d + 10)).os)
theorem w_invertMask {b o n : Nat} {xs : Nat → Int32} {σ : zS} {A : zW} {B : Nat} (h : LI b o n xs σ A B) (hB : B < 2 ^ 29) (x1 : Int32) (d : Nat) : ∃ τ, zEv (d + 30) mX10_invertMask [.inr (.inl (some o)), .inl x1] σ = some (some (.inl (rInvert A x1)), τ) ∧ LI b o n xs τ (tInvert A x1) B :=
  h.call (h.1.invert x1) (LG.invert h.2.1 x1) (KT.invert h.2.2.1 x1) (fun q u P hI => (c_invertMask h.1 (by omega) hI x1 (d + 10)).os)
theorem w_dab {b o n : Nat} {xs : Nat → Int32} {σ : zS} {A : zW} {B : Nat} (h : LI b o n xs σ A B) (hB : B < 2 ^ 29) (x1 x2 x3 x4 : Int32) (d : Nat) : ∃ τ, zEv (d + 30) mX10_dab [.inr (.inl (some o)), .inl x1, .inl x2, .inl x3, .inl x4] σ = some (some (.inl (rDab A x1 x2 x3 x4)), τ) ∧ LI b o n xs τ (tDab A x1 x2 x3 x4) B :=
  h.call (h.1.dab x1 x2 x3 x4) (LG.dab h.2.1 x1 x2 x3 x4) (KT.dab h.2.2.1 x1 x2 x3 x4) (fun q u P hI => (c_dab h.1 (by omega) hI x1 x2 x3 x4 (d + 10)).os)
theorem w_pixel {b o n : Nat} {xs : Nat → Int32} {σ : zS} {A : zW} {B : Nat} (h : LI b o n xs σ A B) (hB : B < 2 ^ 29) (x1 x2 x3 : Int32) (d : Nat) : ∃ τ, zEv (d + 30) mX10_pixel [.inr (.inl (some o)), .inl x1, .inl x2, .inl x3] σ = some (some (.inl (rPx A x1 x2 x3)), τ) ∧ LI b o n xs τ (tPx A x1 x2 x3) (B + 33000) :=
  h.call (h.1.px x1 x2 x3) (LG.px h.2.1 x1 x2 x3) (KT.px h.1 h.2.2.1 x1 x2 x3) (fun q u P hI => (c_pixel h.1 (by omega) hI x1 x2 x3 d).os)
theorem w_prefetch {b o n : Nat} {xs : Nat → Int32} {σ : zS} {A : zW} {B : Nat} (h : LI b o n xs σ A B) (hB : B < 2 ^ 29) (x1 : Int32) (d : Nat) : ∃ τ, zEv (d + 30) mX10_prefetch [.inr (.inl (some o)), .inl x1] σ = some (some (.inl (rPre A x1)), τ) ∧ LI b o n xs τ (tPre A x1) (B + 33000) :=
  h.call (h.1.pre x1) (LG.pre h.2.1 x1) (KT.pre h.1 h.2.2.1 x1) (fun q u P hI => (c_prefetch h.1 (by omega) hI x1 d).os)
theorem w_setCacheLimit {b o n : Nat} {xs : Nat → Int32} {σ : zS} {A : zW} {B : Nat} (h : LI b o n xs σ A B) (hB : B < 2 ^ 29) (x1 : Int32) (d : Nat) : ∃ τ, zEv (d + 30) mX10_setCacheLimit [.inr (.inl (some o)), .inl x1] σ = some (some (.inl (rLim A x1)), τ) ∧ LI b o n xs τ (tLim A x1) B :=
  h.call (h.1.lim x1) (LG.lim h.2.1 x1) (KT.lim h.2.2.1 x1) (fun q u P hI => (c_setCacheLimit h.1 (by omega) hI x1 (d + 10)).os)
theorem w_setTileSize {b o n : Nat} {xs : Nat → Int32} {σ : zS} {A : zW} {B : Nat} (h : LI b o n xs σ A B) (hB : B < 2 ^ 29) (x1 : Int32) (d : Nat) : ∃ τ, zEv (d + 30) mX10_setTileSize [.inr (.inl (some o)), .inl x1] σ = some (some (.inl (rTs A x1)), τ) ∧ LI b o n xs τ (tTs A x1) B :=
  h.call (h.1.ts x1) (LG.ts h.2.1 x1) (KT.ts h.2.2.1 x1) (fun q u P hI => (c_setTileSize h.1 (by omega) hI x1 (d + 10)).os)
theorem w_clearCache {b o n : Nat} {xs : Nat → Int32} {σ : zS} {A : zW} {B : Nat} (h : LI b o n xs σ A B) (hB : B < 2 ^ 29) (d : Nat) : ∃ τ, zEv (d + 30) mX10_clearCache [.inr (.inl (some o))] σ = some (some (.inl (nI (cnt (aU A) 512))), τ) ∧ LI b o n xs τ (tClearC A) B :=
  h.call (h.1.clearC) (LG.clearC h.2.1) (KT.clearC h.2.2.1) (fun q u P hI => (c_clearCache h.1 (by omega) hI (d + 10)).os)
theorem w_cachedTiles {b o n : Nat} {xs : Nat → Int32} {σ : zS} {A : zW} {B : Nat} (h : LI b o n xs σ A B) (hB : B < 2 ^ 29) (x1 : Int32) (d : Nat) : ∃ τ, zEv (d + 30) mX10_cachedTiles [.inr (.inl (some o)), .inl x1] σ = some (some (.inl (rCt A x1)), τ) ∧ LI b o n xs τ A B :=
  h.call h.1 h.2.1 h.2.2.1 (fun q u P hI => (c_cachedTiles h.1 (by omega) hI x1 (d + 10)).os)
theorem w_counter {b o n : Nat} {xs : Nat → Int32} {σ : zS} {A : zW} {B : Nat} (h : LI b o n xs σ A B) (hB : B < 2 ^ 29) (x1 : Int32) (d : Nat) : ∃ τ, zEv (d + 30) mX10_counter [.inr (.inl (some o)), .inl x1] σ = some (some (.inl (rCtr A x1)), τ) ∧ LI b o n xs τ A B :=
  h.call h.1 h.2.1 h.2.2.1 (fun q u P hI => (c_counter hI x1 (d + 10)).os)
theorem w_histogram {b o n : Nat} {xs : Nat → Int32} {σ : zS} {A : zW} {B : Nat} (h : LI b o n xs σ A B) (hB : B < 2 ^ 29) (x1 x2 x3 : Int32) (d : Nat) : ∃ τ, zEv (d + 30) mX10_histogram [.inr (.inl (some o)), .inl x1, .inl x2, .inl x3] σ = some (some (.inl (rHist A x1 x2 x3)), τ) ∧ LI b o n xs τ A B :=
  h.call h.1 h.2.1 h.2.2.1 (fun q u P hI => (c_histogram h.1 hI x1 x2 x3 (d + 10)).os)
theorem w_sum {b o n : Nat} {xs : Nat → Int32} {σ : zS} {A : zW} {B : Nat} (h : LI b o n xs σ A B) (hB : B < 2 ^ 29) (x1 : Int32) (d : Nat) : ∃ τ, zEv (d + 30) mX10_sum [.inr (.inl (some o)), .inl x1] σ = some (some (.inl (rSum A x1)), τ) ∧ LI b o n xs τ A B :=
  h.call h.1 h.2.1 h.2.2.1 (fun q u P hI => (c_sum h.1 hI x1 (d + 10)).os)
theorem w_effect {b o n : Nat} {xs : Nat → Int32} {σ : zS} {A : zW} {B : Nat} (h : LI b o n xs σ A B) (hB : B < 2 ^ 29) (x1 : Int32) (d : Nat) : ∃ τ, zEv (d + 30) mX10_effect [.inr (.inl (some o)), .inl x1] σ = some (some (.inl (rEff A x1)), τ) ∧ LI b o n xs τ A B :=
  h.call h.1 h.2.1 h.2.2.1 (fun q u P hI => (c_effect h.1 hI x1 (d + 10)).os)
theorem w_strongestLayer {b o n : Nat} {xs : Nat → Int32} {σ : zS} {A : zW} {B : Nat} (h : LI b o n xs σ A B) (hB : B < 2 ^ 29) (d : Nat) : ∃ τ, zEv (d + 30) mX10_strongestLayer [.inr (.inl (some o))] σ = some (some (.inl (rStg A)), τ) ∧ LI b o n xs τ A B :=
  h.call h.1 h.2.1 h.2.2.1 (fun q u P hI => (c_strongestLayer h.1 hI (d + 10)).os)
theorem w_exchangeDifference {b o n : Nat} {xs : Nat → Int32} {σ : zS} {A : zW} {B : Nat} (h : LI b o n xs σ A B) (hB : B < 2 ^ 29) (x1 : Int32) (d : Nat) : ∃ τ, zEv (d + 30) mX10_exchangeDifference [.inr (.inl (some o)), .inl x1] σ = some (some (.inl (rExc A x1)), τ) ∧ LI b o n xs τ A B :=
  h.call h.1 h.2.1 h.2.2.1 (fun q u P hI => (c_exchangeDifference h.1 hI x1 (d + 10)).os)
theorem w_snapshotDifference {b o n : Nat} {xs : Nat → Int32} {σ : zS} {A : zW} {B : Nat} (h : LI b o n xs σ A B) (hB : B < 2 ^ 29) (x1 : Int32) (d : Nat) : ∃ τ, zEv (d + 30) mX10_snapshotDifference [.inr (.inl (some o)), .inl x1] σ = some (some (.inl (rSnap A x1)), τ) ∧ LI b o n xs τ A B :=
  h.call h.1 h.2.1 h.2.2.1 (fun q u P hI => (c_snapshotDifference h.1 hI x1 (d + 10)).os)
theorem w_undo {b o n : Nat} {xs : Nat → Int32} {σ : zS} {A : zW} {B : Nat} (h : LI b o n xs σ A B) (hB : B < 2 ^ 29) (d : Nat) : ∃ τ, zEv (d + 30) mX10_undo [.inr (.inl (some o))] σ = some (some (.inl (rUndo A)), τ) ∧ LI b o n xs τ (tUndo A) B :=
  h.call (h.1.undo) (LG.undo h.2.1) (KT.undo h.2.2.1) (fun q u P hI => (c_undo h.1 (by omega) hI (d + 10)).os)
theorem w_save {b o n : Nat} {xs : Nat → Int32} {σ : zS} {A : zW} {B : Nat} (h : LI b o n xs σ A B) (hB : B < 2 ^ 29) (x1 : Int32) (d : Nat) : ∃ τ, zEv (d + 30) mX10_save [.inr (.inl (some o)), .inl x1] σ = some (some (.inl (rSav A x1)), τ) ∧ LI b o n xs τ (tSav A x1) B :=
  h.call (h.1.sav x1) (LG.sav h.2.1 x1) (KT.sav h.2.2.1 x1) (fun q u P hI => (c_save h.1 h.2.2.2.2.2.2 hI x1 (d + 10)))
theorem w_restore {b o n : Nat} {xs : Nat → Int32} {σ : zS} {A : zW} {B : Nat} (h : LI b o n xs σ A B) (hB : B < 2 ^ 29) (x1 : Int32) (d : Nat) : ∃ τ, zEv (d + 30) mX10_restore [.inr (.inl (some o)), .inl x1] σ = some (some (.inl (rRest A x1)), τ) ∧ LI b o n xs τ (tRest A x1) B :=
  h.call (h.1.rest x1) (LG.rest h.2.1 x1) (KT.rest h.2.2.1 x1) (fun q u P hI => (c_restore h.1 (by omega) hI x1 (d + 10)).os)
/-! the law's small methods -/
def lowI (v n : Int32) : Int32 := (v &&& 2147483647) - (v &&& 2147483647) / n * n
theorem w_low (v n : Int32) (hn : n ≠ 0) (σ : zS) (d : Nat) : zEv (d + 1) mL_low [.inl v, .inl n] σ = some (some (.inl (lowI v n)), σ) := by
  rw [vL_low]
  unfold fL_low lowI
  rw [if_neg hn]
theorem low_R {v n : Int32} {m : Nat} (hn : n = nI m) (h0 : 0 < m) (h1 : m < 2 ^ 31) : ∃ k, lowI v n = nI k ∧ k < m := by
  subst hn
  obtain ⟨j, hj, e⟩ := pk_andE v (m := 2147483647) 31 (by decide)
  refine ⟨j % m, ?_, Nat.mod_lt _ h0⟩
  unfold lowI
  rw [e, i_nI j, i_nI m, i_div (by omega) (by omega) (by omega) (by omega), i_mul, i_sub, i_nI]
  congr 1
  have e2 : ((j : Nat) : Int).tdiv (m : Int) = ((j / m : Nat) : Int) := rfl
  rw [e2]
  have := Nat.div_add_mod j m
  rw [← Int.natCast_mul, Nat.mul_comm (j / m) m]
  omega
theorem w_more (x y : Int32) (σ : zS) (d : Nat) : zEv (d + 1) mL_more [.inl x, .inl y] σ = some (some (.inl (if x ≤ y then y else x)), σ) := by
  rw [vL_more]
  unfold fL_more
  split <;> rfl
theorem w_cell {b o n : Nat} {xs : Nat → Int32} {σ : zS} {A : zW} {B : Nat} (h : LI b o n xs σ A B) (hn : n < 2 ^ 31) {x : Int32} {k : Nat} (hx : x = nI k) (hk : k < 2 ^ 31) (d : Nat) : ∃ v, zEv (d + 1) mL_cell [.inr (.inl (some b)), .inl x] σ = some (some (.inl v), σ) := by
  subst hx
  obtain ⟨hbo, hbk, hbl, hxs⟩ := h.2.2.2.2.2.1
  rw [vL_cell]
  unfold fL_cell
  simp only [onR_s, chk_e, hbk, hbl, if_true, n_ofNat, n_lt hk hn, n_zin hk, true_and]
  by_cases c : k < n
  · rw [if_pos c, if_pos c]
    exact ⟨_, rfl⟩
  · rw [if_neg c]
    exact ⟨_, rfl⟩
