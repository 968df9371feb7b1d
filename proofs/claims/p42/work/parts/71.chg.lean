/-! changes of the row of layers: what stays below -/
theorem GA.chg {A : zW} {B l : Nat} {C : zC} (hG : GA A B) (hC : GC C) (hw : cW C = cW (aC A)) (hh : cH C = cH (aC A)) (hl : l ≤ cN C) (hs : ∀ i, i < l → cL C i = cL (aC A) i) : GA (aSet (aCh A l) C) B := by
  have h1 : GA (aCh A l) B := (hG.push).til (v := zrU (aU A) (64 * l) 512) (fun j _ => zrU_or _ _ _ _)
  refine h1.set hC (fun k hk hz => ?_)
  have hz : zrU (aU A) (64 * l) 512 k ≠ 0 := hz
  have hlt : k < 64 * l := by
    rcases Nat.lt_or_ge k (64 * l) with q | q
    · exact q
    · exact absurd (zrU_z _ _ _ q hk) hz
  have hz' : aU A k ≠ 0 := by
    rcases zrU_or (aU A) (64 * l) 512 k with e | e
    · exact absurd e hz
    · rw [← e]; exact hz
  have := hG.2.2.2.2.2.2.2.1 k hk hz'
  refine ⟨by omega, ?_, hw, hh⟩
  rw [hs _ (by omega)]
  exact this.2.1
theorem CIx.chg {σ τ : zS} {o l B : Nat} {A : zW} {q q' u P : Nat → Nat} {C : zC} (hG : GA A B) (h : CIx σ o (aCh A l) q u P) (g : zFr (inC (o + 1)) σ τ) (hq : CmQ τ (o + 1) q') (hv : CmV τ (o + 1) q' C) (hw : cW C = cW (aC A)) (hh : cH C = cH (aC A)) (hp : cP C = cP (aC A)) (hs : ∀ i, i < l → cL C i = cL (aC A) i) : CIx τ o (aSet (aCh A l) C) q' u P := by
  have h1 : GA (aCh A l) B := (hG.push).til (v := zrU (aU A) (64 * l) 512) (fun j _ => zrU_or _ _ _ _)
  refine h.comp h1 g hq hv (fun k hk hz => ⟨hw, hh, fun x y _ _ _ _ => ?_⟩)
  have hz : zrU (aU A) (64 * l) 512 k ≠ 0 := hz
  have hlt : k < 64 * l := by
    rcases Nat.lt_or_ge k (64 * l) with q | q
    · exact q
    · exact absurd (zrU_z _ _ _ q hk) hz
  have e : outI C (k / 64 + 1) = outI (aC A) (k / 64 + 1) := outI_congr hw hh hp _ (fun i hi => hs i (by omega))
  show outI C (k / 64 + 1) x y = outI (aC A) (k / 64 + 1) x y
  rw [e]
/-! moveLayer -/
def mvC (C : zC) (f t : Nat) : zC := (cW C, cH C, cN C, cP C, lMv (cL C) f t)
theorem mvN_low {f t i : Nat} (h : i < min f t) : mvN f t i = i := by
  unfold mvN
  rw [if_neg (by omega), if_neg (by omega), if_neg (by omega)]
theorem GC.mv {C : zC} (h : GC C) {f t : Nat} (hf : f < cN C) (ht : t < cN C) : GC (mvC C f t) :=
  ⟨h.1, h.2.1, h.2.2.1, h.2.2.2.1, fun i hi => h.2.2.2.2 _ (mvN_lt hf ht hi)⟩
def gMv (A : zW) (x y : Int32) : Prop := zin x (cN (aC A)) ∧ zin y (cN (aC A)) ∧ x.toNatClampNeg ≠ y.toNatClampNeg
def rMv (A : zW) (x y : Int32) : Int32 := if zin x (cN (aC A)) ∧ zin y (cN (aC A)) ∧ x.toNatClampNeg ≠ y.toNatClampNeg then iI (cL (aC A) x.toNatClampNeg 0) else -1001
def tMv (A : zW) (x y : Int32) : zW := if zin x (cN (aC A)) ∧ zin y (cN (aC A)) ∧ x.toNatClampNeg ≠ y.toNatClampNeg then aSet (aCh A (min x.toNatClampNeg y.toNatClampNeg)) (mvC (aC A) x.toNatClampNeg y.toNatClampNeg) else A
theorem GA.mv {A : zW} {B : Nat} (hG : GA A B) (x y : Int32) : GA (tMv A x y) B := by
  unfold tMv
  split
  · next h =>
    have hx := (zin_n h.1).2
    have hy := (zin_n h.2.1).2
    exact hG.chg (hG.1.mv hx hy) rfl rfl (by show _ ≤ cN (aC A); omega) (fun i hi => by show lMv (cL (aC A)) _ _ i = _; unfold lMv; rw [mvN_low hi])
  · exact hG
theorem c_moveLayer {σ : zS} {o B : Nat} {A : zW} {q u P : Nat → Nat} (hG : GA A B) (hB : B < 2 ^ 30) (hI : CIx σ o A q u P) (x y : Int32) (d : Nat) : zOC o (zEv (d + 20) mX10_moveLayer [.inr (.inl (some o)), .inl x, .inl y] σ) (rMv A x y) (tMv A x y) σ := by
  have hR := hI.1
  have hO := hR.1
  have hn8 := hG.1.2.2.1
  have key : ∀ r, zOC o (some (some (.inl r), σ)) r A σ := fun r => zOC.same hI r
  rw [vX10_moveLayer]
  unfold fX10_moveLayer rMv tMv
  simp only [zlt_e, onR_s, nul_s, nul_n, chk_e, bnI_s, bnR_s, bnV_s, zi_si, zi_sr, zi_sl, zi_sa, zi_sq, zr_si, zr_sr, zr_sl, zr_sa, zr_sq, zl_si, zl_sr, zl_sl, zl_sa, zl_sq, zai_si, zai_sr, zai_sl, zai_sa, zai_sq, zar_si, zar_sr, zar_sl, zar_sa, zar_sq, zkd_si, zkd_sr, zkd_sl, zkd_sa, zkd_sq, zln_si, zln_sr, zln_sl, zln_sa, zln_sq, znx_si, znx_sr, znx_sl, znx_sa, znx_sq, hO.f.1, hO.f.2.1, hO.c.1, if_true]
  by_cases hx : zin x (cN (aC A))
  · obtain ⟨ex, hf⟩ := zin_n hx
    generalize x.toNatClampNeg = f at *
    subst ex
    simp only [zlt_e, onR_s, nul_s, nul_n, chk_e, bnI_s, bnR_s, bnV_s, zi_si, zi_sr, zi_sl, zi_sa, zi_sq, zr_si, zr_sr, zr_sl, zr_sa, zr_sq, zl_si, zl_sr, zl_sl, zl_sa, zl_sq, zai_si, zai_sr, zai_sl, zai_sa, zai_sq, zar_si, zar_sr, zar_sl, zar_sa, zar_sq, zkd_si, zkd_sr, zkd_sl, zkd_sa, zkd_sq, zln_si, zln_sr, zln_sl, zln_sa, zln_sq, znx_si, znx_sr, znx_sl, znx_sa, znx_sq, s_layerAt hO.c hR.2.1 hR.2.2.1.2.1 hn8 hf, hO.f.1, if_true]
    by_cases hy : zin y (cN (aC A))
    · obtain ⟨ey, ht⟩ := zin_n hy
      generalize y.toNatClampNeg = t at *
      subst ey
      simp only [zlt_e, onR_s, nul_s, nul_n, chk_e, bnI_s, bnR_s, bnV_s, zi_si, zi_sr, zi_sl, zi_sa, zi_sq, zr_si, zr_sr, zr_sl, zr_sa, zr_sq, zl_si, zl_sr, zl_sl, zl_sa, zl_sq, zai_si, zai_sr, zai_sl, zai_sa, zai_sq, zar_si, zar_sr, zar_sl, zar_sa, zar_sq, zkd_si, zkd_sr, zkd_sl, zkd_sa, zkd_sq, zln_si, zln_sr, zln_sl, zln_sa, zln_sq, znx_si, znx_sr, znx_sl, znx_sa, znx_sq, hO.f.1, hO.f.2.1, hO.c.1, if_true, s_layerAt hO.c hR.2.1 hR.2.2.1.2.1 hn8 ht, n_eq (show f < 2 ^ 31 by omega) (show t < 2 ^ 31 by omega), s_min, n_min (show f < 2 ^ 31 by omega) (show t < 2 ^ 31 by omega)]
      by_cases hft : f = t
      · rw [if_pos hft, if_neg (fun q => q.2.2 hft), if_neg (fun q => q.2.2 hft)]
        exact key _
      · rw [if_neg hft, if_pos ⟨hx, hy, hft⟩, if_pos ⟨hx, hy, hft⟩]
        obtain ⟨τ, u', k1, k2, k3⟩ := s_startChange hG hB hI (show min f t ≤ 8 by omega) (d + 12)
        obtain ⟨υ, l1, l2, l3, l4, l5⟩ := s_shift k3.1.1.c k3.1.2.1 k3.1.2.2.1.2.1 hn8 hf ht (d + 17)
        have hqf := (hR.2.1.1 f (by omega)).2
        have g : zFr (inC (o + 1)) τ υ := l2.mono (fun a ha => by unfold inC; omega)
        have hv : CmV υ (o + 1) (fun i => q (mvN f t i)) (mvC (aC A) f t) := ⟨k3.1.2.2.1.1.fr l2 (by omega) (by omega), (l4 _ _).trans k3.1.2.2.1.2.1, fun i hi => by
          have hj := mvN_lt hf ht (show i < cN (aC A) from hi)
          have hqj := (hR.2.1.1 (mvN f t i) (by omega)).2
          exact (k3.1.2.2.1.2.2 (mvN f t i) hj).fr l2 (fun a ha => by unfold inL at ha; omega)⟩
        have hO3 := k3.1.1.fr l2
        have a0 : zi υ 128 (o + 1 + 4 + 3 * q f) = iI (cL (aC A) f 0) := (l4 _ _).trans ((k3.1.2.2.1.2.2 f hf).1 0 (by decide))
        simp only [zlt_e, onR_s, nul_s, nul_n, chk_e, bnI_s, bnR_s, bnV_s, zi_si, zi_sr, zi_sl, zi_sa, zi_sq, zr_si, zr_sr, zr_sl, zr_sa, zr_sq, zl_si, zl_sr, zl_sl, zl_sa, zl_sq, zai_si, zai_sr, zai_sl, zai_sa, zai_sq, zar_si, zar_sr, zar_sl, zar_sa, zar_sq, zkd_si, zkd_sr, zkd_sl, zkd_sa, zkd_sq, zln_si, zln_sr, zln_sl, zln_sa, zln_sq, znx_si, znx_sr, znx_sl, znx_sa, znx_sq, hO.f.1, if_true, k1, k3.1.1.f.1, k3.1.1.f.2.1, k3.1.1.c.1, l1, (hO3.c.2.2.2.2.2.2 (q f) hqf).1, a0]
        exact ⟨υ, _, u', P, rfl, k3.chg hG g l5 hv rfl rfl rfl (fun i hi => by show lMv (cL (aC A)) _ _ i = _; unfold lMv; rw [mvN_low hi]), (k2.mono (fun a ha => by unfold inHU inH inU at ha; omega)).tr (g.mono (fun a ha => by unfold inC at ha; omega))⟩
    · rw [if_neg (fun q => hy q.2.1), if_neg (fun q => hy q.2.1)]
      simp only [zlt_e, onR_s, nul_s, nul_n, chk_e, bnI_s, bnR_s, bnV_s, zi_si, zi_sr, zi_sl, zi_sa, zi_sq, zr_si, zr_sr, zr_sl, zr_sa, zr_sq, zl_si, zl_sr, zl_sl, zl_sa, zl_sq, zai_si, zai_sr, zai_sl, zai_sa, zai_sq, zar_si, zar_sr, zar_sl, zar_sa, zar_sq, zkd_si, zkd_sr, zkd_sl, zkd_sa, zkd_sq, zln_si, zln_sr, zln_sl, zln_sa, zln_sq, znx_si, znx_sr, znx_sl, znx_sa, znx_sq, hO.f.1, hO.f.2.1, hO.c.1, if_true, s_layerNo hO.c hR.2.2.1.2.1 hn8 hy]
      exact key _
  · rw [if_neg (fun q => hx q.1), if_neg (fun q => hx q.1)]
    simp only [zlt_e, onR_s, nul_s, nul_n, chk_e, bnI_s, bnR_s, bnV_s, zi_si, zi_sr, zi_sl, zi_sa, zi_sq, zr_si, zr_sr, zr_sl, zr_sa, zr_sq, zl_si, zl_sr, zl_sl, zl_sa, zl_sq, zai_si, zai_sr, zai_sl, zai_sa, zai_sq, zar_si, zar_sr, zar_sl, zar_sa, zar_sq, zkd_si, zkd_sr, zkd_sl, zkd_sa, zkd_sq, zln_si, zln_sr, zln_sl, zln_sa, zln_sq, znx_si, znx_sr, znx_sl, znx_sa, znx_sq, s_layerNo hO.c hR.2.2.1.2.1 hn8 hx]
    exact key _
/-! duplicateLayer, removeLayer -/
def dupC (C : zC) (k : Nat) : zC := (cW C, cH C, cN C + 1, cP C, lDup (cL C) k)
def cutC (C : zC) (k : Nat) : zC := (cW C, cH C, cN C - 1, cP C, lCut (cL C) k)
theorem GC.dup {C : zC} (h : GC C) {k : Nat} (hk : k < cN C) (hn : cN C < 8) : GC (dupC C k) :=
  ⟨h.1, h.2.1, hn, h.2.2.2.1, fun i hi => by
    have hi : i < cN C + 1 := hi
    show GL (if i ≤ k then cL C i else cL C (i - 1))
    split
    · exact h.2.2.2.2 _ (by omega)
    · exact h.2.2.2.2 _ (by omega)⟩
theorem GC.cut {C : zC} (h : GC C) {k : Nat} (hk : k < cN C) : GC (cutC C k) :=
  ⟨h.1, h.2.1, by show cN C - 1 ≤ 8; have := h.2.2.1; omega, h.2.2.2.1, fun i hi => by
    have hi : i < cN C - 1 := hi
    show GL (if i < k then cL C i else cL C (i + 1))
    split
    · exact h.2.2.2.2 _ (by omega)
    · exact h.2.2.2.2 _ (by omega)⟩
def rDup (A : zW) (x : Int32) : Int32 := if zin x (cN (aC A)) then (if cN (aC A) = 8 then -1003 else nI (x.toNatClampNeg + 1)) else -1001
def tDup (A : zW) (x : Int32) : zW := if zin x (cN (aC A)) then (if cN (aC A) = 8 then A else aSet (aCh A (x.toNatClampNeg + 1)) (dupC (aC A) x.toNatClampNeg)) else A
def rRem (A : zW) (x : Int32) : Int32 := if zin x (cN (aC A)) then nI (cN (aC A) - 1) else -1001
def tRem (A : zW) (x : Int32) : zW := if zin x (cN (aC A)) then aSet (aCh A x.toNatClampNeg) (cutC (aC A) x.toNatClampNeg) else A
theorem GA.dup {A : zW} {B : Nat} (hG : GA A B) (x : Int32) : GA (tDup A x) B := by
  unfold tDup
  split
  · next h =>
    have hx := (zin_n h).2
    split
    · exact hG
    · next h8 => exact hG.chg (hG.1.dup hx (by have := hG.1.2.2.1; omega)) rfl rfl (by show _ ≤ cN (aC A) + 1; omega) (fun i hi => if_pos (by omega))
  · exact hG
theorem GA.rem {A : zW} {B : Nat} (hG : GA A B) (x : Int32) : GA (tRem A x) B := by
  unfold tRem
  split
  · next h =>
    have hx := (zin_n h).2
    exact hG.chg (hG.1.cut hx) rfl rfl (by show _ ≤ cN (aC A) - 1; omega) (fun i hi => if_pos hi)
  · exact hG
theorem c_duplicateLayer {σ : zS} {o B : Nat} {A : zW} {q u P : Nat → Nat} (hG : GA A B) (hB : B < 2 ^ 30) (hI : CIx σ o A q u P) (x : Int32) (d : Nat) : zOC o (zEv (d + 20) mX10_duplicateLayer [.inr (.inl (some o)), .inl x] σ) (rDup A x) (tDup A x) σ := by
  have hR := hI.1
  have hO := hR.1
  have hn8 := hG.1.2.2.1
  have key : ∀ r, zOC o (some (some (.inl r), σ)) r A σ := fun r => zOC.same hI r
  rw [vX10_duplicateLayer]
  unfold fX10_duplicateLayer rDup tDup
  simp only [zlt_e, onR_s, nul_s, nul_n, chk_e, bnI_s, bnR_s, bnV_s, zi_si, zi_sr, zi_sl, zi_sa, zi_sq, zr_si, zr_sr, zr_sl, zr_sa, zr_sq, zl_si, zl_sr, zl_sl, zl_sa, zl_sq, zai_si, zai_sr, zai_sl, zai_sa, zai_sq, zar_si, zar_sr, zar_sl, zar_sa, zar_sq, zkd_si, zkd_sr, zkd_sl, zkd_sa, zkd_sq, zln_si, zln_sr, zln_sl, zln_sa, zln_sq, znx_si, znx_sr, znx_sl, znx_sa, znx_sq, hO.f.1, hO.f.2.1, hO.c.1, if_true]
  by_cases hx : zin x (cN (aC A))
  · obtain ⟨ex, hk⟩ := zin_n hx
    generalize x.toNatClampNeg = k at *
    subst ex
    rw [if_pos hx, if_pos hx]
    simp only [zlt_e, onR_s, nul_s, nul_n, chk_e, bnI_s, bnR_s, bnV_s, zi_si, zi_sr, zi_sl, zi_sa, zi_sq, zr_si, zr_sr, zr_sl, zr_sa, zr_sq, zl_si, zl_sr, zl_sl, zl_sa, zl_sq, zai_si, zai_sr, zai_sl, zai_sa, zai_sq, zar_si, zar_sr, zar_sl, zar_sa, zar_sq, zkd_si, zkd_sr, zkd_sl, zkd_sa, zkd_sq, zln_si, zln_sr, zln_sl, zln_sa, zln_sq, znx_si, znx_sr, znx_sl, znx_sa, znx_sq, s_layerAt hO.c hR.2.1 hR.2.2.1.2.1 hn8 hk, hO.f.1, hO.f.2.1, hO.c.1, if_true, s_isFull hO.c hR.2.2.1.2.1 hn8, zb_0]
    by_cases h8 : cN (aC A) = 8
    · rw [if_neg (fun q => q h8), if_pos h8, if_pos h8]; exact key _
    · rw [if_pos h8, if_neg h8, if_neg h8]
      obtain ⟨τ, u', k1, k2, k3⟩ := s_startChange hG hB hI (show k + 1 ≤ 8 by omega) (d + 12)
      obtain ⟨υ, q', l1, l2, l3, l4, l5⟩ := s_addCopyAbove k3.1.1.c k3.1.2.1 k3.1.2.2.1 (show cN (aC A) < 8 by omega) hG.1.2.2.2.2 hk (d + 15)
      have g : zFr (inC (o + 1)) τ υ := l2.mono (fun a ha => ha.1)
      have hv : CmV υ (o + 1) q' (dupC (aC A) k) := ⟨k3.1.2.2.1.1.fr l2 (fun q => q.2 (Or.inl rfl)) (fun q => q.2 (Or.inr rfl)), l4, l5⟩
      simp only [zlt_e, onR_s, nul_s, nul_n, chk_e, bnI_s, bnR_s, bnV_s, zi_si, zi_sr, zi_sl, zi_sa, zi_sq, zr_si, zr_sr, zr_sl, zr_sa, zr_sq, zl_si, zl_sr, zl_sl, zl_sa, zl_sq, zai_si, zai_sr, zai_sl, zai_sa, zai_sq, zar_si, zar_sr, zar_sl, zar_sa, zar_sq, zkd_si, zkd_sr, zkd_sl, zkd_sa, zkd_sq, zln_si, zln_sr, zln_sl, zln_sa, zln_sq, znx_si, znx_sr, znx_sl, znx_sa, znx_sq, nI_1, hO.f.1, if_true, k1, k3.1.1.f.1, k3.1.1.f.2.1, k3.1.1.c.1, l1]
      exact ⟨υ, q', u', P, rfl, k3.chg hG g l3 hv rfl rfl rfl (fun i hi => if_pos (by omega)), (k2.mono (fun a ha => by unfold inHU inH inU at ha; omega)).tr (g.mono (fun a ha => by unfold inC at ha; omega))⟩
  · rw [if_neg hx, if_neg hx]
    simp only [zlt_e, onR_s, nul_s, nul_n, chk_e, bnI_s, bnR_s, bnV_s, zi_si, zi_sr, zi_sl, zi_sa, zi_sq, zr_si, zr_sr, zr_sl, zr_sa, zr_sq, zl_si, zl_sr, zl_sl, zl_sa, zl_sq, zai_si, zai_sr, zai_sl, zai_sa, zai_sq, zar_si, zar_sr, zar_sl, zar_sa, zar_sq, zkd_si, zkd_sr, zkd_sl, zkd_sa, zkd_sq, zln_si, zln_sr, zln_sl, zln_sa, zln_sq, znx_si, znx_sr, znx_sl, znx_sa, znx_sq, s_layerNo hO.c hR.2.2.1.2.1 hn8 hx]
    exact key _
theorem c_removeLayer {σ : zS} {o B : Nat} {A : zW} {q u P : Nat → Nat} (hG : GA A B) (hB : B < 2 ^ 30) (hI : CIx σ o A q u P) (x : Int32) (d : Nat) : zOC o (zEv (d + 20) mX10_removeLayer [.inr (.inl (some o)), .inl x] σ) (rRem A x) (tRem A x) σ := by
  have hR := hI.1
  have hO := hR.1
  have hn8 := hG.1.2.2.1
  have key : ∀ r, zOC o (some (some (.inl r), σ)) r A σ := fun r => zOC.same hI r
  rw [vX10_removeLayer]
  unfold fX10_removeLayer rRem tRem
  simp only [zlt_e, onR_s, nul_s, nul_n, chk_e, bnI_s, bnR_s, bnV_s, zi_si, zi_sr, zi_sl, zi_sa, zi_sq, zr_si, zr_sr, zr_sl, zr_sa, zr_sq, zl_si, zl_sr, zl_sl, zl_sa, zl_sq, zai_si, zai_sr, zai_sl, zai_sa, zai_sq, zar_si, zar_sr, zar_sl, zar_sa, zar_sq, zkd_si, zkd_sr, zkd_sl, zkd_sa, zkd_sq, zln_si, zln_sr, zln_sl, zln_sa, zln_sq, znx_si, znx_sr, znx_sl, znx_sa, znx_sq, hO.f.1, hO.f.2.1, hO.c.1, if_true]
  by_cases hx : zin x (cN (aC A))
  · obtain ⟨ex, hk⟩ := zin_n hx
    generalize x.toNatClampNeg = k at *
    subst ex
    rw [if_pos hx, if_pos hx]
    obtain ⟨τ, u', k1, k2, k3⟩ := s_startChange hG hB hI (show k ≤ 8 by omega) (d + 12)
    obtain ⟨υ, q', l1, l2, l3, l4, l5⟩ := s_takeOut k3.1.1.c k3.1.2.1 k3.1.2.2.1 hn8 hk (d + 16)
    have g : zFr (inC (o + 1)) τ υ := l2.mono (fun a ha => by unfold inC; omega)
    have hv : CmV υ (o + 1) q' (cutC (aC A) k) := ⟨k3.1.2.2.1.1.fr l2 (by omega) (by omega), l4, l5⟩
    have hO3 := k3.1.1.fr l2
    simp only [zlt_e, onR_s, nul_s, nul_n, chk_e, bnI_s, bnR_s, bnV_s, zi_si, zi_sr, zi_sl, zi_sa, zi_sq, zr_si, zr_sr, zr_sl, zr_sa, zr_sq, zl_si, zl_sr, zl_sl, zl_sa, zl_sq, zai_si, zai_sr, zai_sl, zai_sa, zai_sq, zar_si, zar_sr, zar_sl, zar_sa, zar_sq, zkd_si, zkd_sr, zkd_sl, zkd_sa, zkd_sq, zln_si, zln_sr, zln_sl, zln_sa, zln_sq, znx_si, znx_sr, znx_sl, znx_sa, znx_sq, s_layerAt hO.c hR.2.1 hR.2.2.1.2.1 hn8 hk, hO.f.1, hO.f.2.1, hO.c.1, if_true, k1, k3.1.1.f.1, k3.1.1.f.2.1, k3.1.1.c.1, l1, hO3.f.1, hO3.f.2.1, hO3.c.1, s_layerCount hO3.c, l4]
    exact ⟨υ, q', u', P, rfl, k3.chg hG g l3 hv rfl rfl rfl (fun i hi => if_pos hi), (k2.mono (fun a ha => by unfold inHU inH inU at ha; omega)).tr (g.mono (fun a ha => by unfold inC at ha; omega))⟩
  · rw [if_neg hx, if_neg hx]
    simp only [zlt_e, onR_s, nul_s, nul_n, chk_e, bnI_s, bnR_s, bnV_s, zi_si, zi_sr, zi_sl, zi_sa, zi_sq, zr_si, zr_sr, zr_sl, zr_sa, zr_sq, zl_si, zl_sr, zl_sl, zl_sa, zl_sq, zai_si, zai_sr, zai_sl, zai_sa, zai_sq, zar_si, zar_sr, zar_sl, zar_sa, zar_sq, zkd_si, zkd_sr, zkd_sl, zkd_sa, zkd_sq, zln_si, zln_sr, zln_sl, zln_sa, zln_sq, znx_si, znx_sr, znx_sl, znx_sa, znx_sq, s_layerNo hO.c hR.2.2.1.2.1 hn8 hx]
    exact key _
