/-! what-if questions: the class's side -/
def difI (C C2 : zC) : Int := sm (lin (cW C) fun x y => neI (outI C (cN C) x y) (outI C2 (cN C2) x y)) (cH C * cW C)
def offC (C : zC) (i : Nat) : zC := stC C i (upR (cL C i) 5 0)
def effI (C : zC) (i : Nat) : Int := sm (lin (cW C) fun x y => dI (outI C (cN C) x y) (outI (offC C i) (cN C) x y)) (cH C * cW C)
theorem dI_R {a b : Int} (ha : 0 ≤ a ∧ a ≤ 255) (hb : 0 ≤ b ∧ b ≤ 255) : 0 ≤ dI a b ∧ dI a b ≤ 255 := by
  unfold dI
  split <;> omega
theorem GC.off {C : zC} (h : GC C) {i : Nat} (hi : i < cN C) : GC (offC C i) :=
  ⟨h.1, h.2.1, h.2.2.1, h.2.2.2.1, fun j hj => by
    show GL (if j = i then upR (cL C i) 5 0 else cL C j)
    split
    · exact (h.2.2.2.2 i hi).up5 (by decide)
    · exact h.2.2.2.2 j hj⟩
theorem effI_R {C : zC} (h : GC C) {i : Nat} (hi : i < cN C) : 0 ≤ effI C i ∧ effI C i ≤ 65280 := by
  have hw := h.1
  have hh := h.2.1
  have h1 := outI_R h (cN C) (Nat.le_refl _)
  have h2 := outI_R (h.off hi) (cN C) (Nat.le_refl _)
  have key := sm_R (f := lin (cW C) fun x y => dI (outI C (cN C) x y) (outI (offC C i) (cN C) x y)) (m := 255) (cH C * cW C) (fun k hk => by
    have hx : k % cW C < cW C := Nat.mod_lt _ (by omega)
    have hy : k / cW C < cH C := (Nat.div_lt_iff_lt_mul (by omega)).mpr hk
    exact dI_R (h1 _ _ hx hy) (h2 _ _ hx hy))
  have : cH C * cW C ≤ 16 * 16 := Nat.mul_le_mul hh.2 hw.2
  unfold effI
  generalize cH C * cW C = n at *
  omega
theorem s_pixDiff {σ : zS} {o c B : Nat} {A : zW} {q u P r : Nat → Nat} {C2 : zC} (hG : GA A B) (hI : CIx σ o A q u P) (hc : CmS σ c) (hr : CmQ σ c r) (hv : CmV σ c r C2) (G2 : GC C2) (hd : c + 28 ≤ o + 249 ∨ o + 257 ≤ c) (hw2 : cW C2 = cW (aC A)) (hh2 : cH C2 = cH (aC A)) (d : Nat) : ∃ τ, zEv (d + 7) mX10_pixelsThatDiffer [.inr (.inl (some o)), .inr (.inl (some c))] σ = some (some (.inl (iI (difI (aC A) C2))), τ) ∧ zFr (inRS o) σ τ ∧ CIx τ o A q u P := by
  have hO := hI.1.1
  have hn8 := hG.1.2.2.1
  have e1 : nI (cN (aC A)) - 1 = iI ((cN (aC A) : Int) - 1) := by rw [i_nI, show (1 : Int32) = iI 1 from rfl, i_sub]
  have e2 : nI (cN C2) - 1 = iI ((cN C2 : Int) - 1) := by rw [i_nI, show (1 : Int32) = iI 1 from rfl, i_sub]
  obtain ⟨τ, h1, h2, h3, h4⟩ := s_shown hG hI (Nat.le_refl _) d
  have hO2 := h3.1.1
  have hr2 := hr.fr h2 (by omega)
  have hv2 := hv.fr hr G2.2.2.1 h2 (fun a ha => by unfold inC at ha; omega)
  obtain ⟨υ, k1, k2, k3⟩ := s_renderStack hO2.rd (hc.fr h2) hr2 hv2 G2 hO2.cp (Nat.le_refl _) (by omega) (by omega) (by omega) d
  have g2 : zFr (inRS o) τ υ := k2.mono (fun a ha => by unfold inRP inP at ha; unfold inRS; omega)
  have hI3 := h3.rs hG g2
  have hO3 := hI3.1.1
  have h4' : PicV υ (o + 253) (cW (aC A)) (cH (aC A)) (outI (aC A) (cN (aC A))) := h4.fr k2 (by unfold inRP inP; omega) (by unfold inRP inP; omega)
  rw [hw2, hh2] at k3
  have p1 := outI_R hG.1 (cN (aC A)) (Nat.le_refl _)
  have p2 := outI_R G2 (cN C2) (Nat.le_refl _)
  rw [hw2, hh2] at p2
  have ed := s_difPix hO3.sh hO3.cp h4' k3 hG.1.1.2 hG.1.2.1.2 p1 p2 (d + 4)
  refine ⟨υ, ?_, (h2.mono (fun a ha => by unfold inRS; omega)).tr g2, hI3⟩
  rw [vX10_pixelsThatDiffer]
  unfold fX10_pixelsThatDiffer
  simp only [zlt_e, onR_s, nul_s, nul_n, chk_e, bnI_s, bnR_s, bnV_s, zi_si, zi_sr, zi_sl, zi_sa, zi_sq, zr_si, zr_sr, zr_sl, zr_sa, zr_sq, zl_si, zl_sr, zl_sl, zl_sa, zl_sq, zai_si, zai_sr, zai_sl, zai_sa, zai_sq, zar_si, zar_sr, zar_sl, zar_sa, zar_sq, zkd_si, zkd_sr, zkd_sl, zkd_sa, zkd_sq, zln_si, zln_sr, zln_sl, zln_sa, zln_sq, znx_si, znx_sr, znx_sl, znx_sa, znx_sq, hO.f.1, hO.f.2.1, hO.f.2.2.2.2.2.2.2.1, hO.f.2.2.2.2.2.2.2.2.1, hO.rd.1, hO.c.1, if_true, s_layerCount hO.c, hI.1.2.2.1.2.1, e1, h1, hO2.f.1, (hc.fr h2).1, s_layerCount (hc.fr h2), hv2.2.1, e2, hO2.f.2.2.2.2.2.2.2.1, hO2.f.2.2.2.2.2.2.2.2.2, hO2.rd.1, k1, hO3.f.1, hO3.f.2.2.2.2.2.2.2.2.1, hO3.f.2.2.2.2.2.2.2.2.2, hO3.sh.1, ed]
  rfl
def rSnap (A : zW) (x : Int32) : Int32 := if zin x 2 then (match aS A x.toNatClampNeg with
  | none => -1002
  | some C => if cW C = cW (aC A) ∧ cH C = cH (aC A) then iI (difI (aC A) C) else -1002) else -1001
theorem c_snapshotDifference {σ : zS} {o B : Nat} {A : zW} {q u P : Nat → Nat} (hG : GA A B) (hI : CIx σ o A q u P) (x : Int32) (d : Nat) : zOC o (zEv (d + 20) mX10_snapshotDifference [.inr (.inl (some o)), .inl x] σ) (rSnap A x) A σ := by
  have hI0 := hI
  obtain ⟨hR, ⟨r, hr⟩, hHQ, hHV, hS, hT⟩ := hI
  have hO := hR.1
  have n2 : Int32.ofNat 2 = nI 2 := rfl
  have w1 : x < 0 ↔ x.toInt < 0 := Int32.lt_iff_toInt_lt
  have w2 : x < nI 2 ↔ x.toInt < 2 := by rw [Int32.lt_iff_toInt_lt]; exact Iff.rfl
  rw [vX10_snapshotDifference]
  unfold fX10_snapshotDifference rSnap
  simp only [zlt_e, onR_s, nul_s, nul_n, chk_e, bnI_s, bnR_s, bnV_s, zi_si, zi_sr, zi_sl, zi_sa, zi_sq, zr_si, zr_sr, zr_sl, zr_sa, zr_sq, zl_si, zl_sr, zl_sl, zl_sa, zl_sq, zai_si, zai_sr, zai_sl, zai_sa, zai_sq, zar_si, zar_sr, zar_sl, zar_sa, zar_sq, zkd_si, zkd_sr, zkd_sl, zkd_sa, zkd_sq, zln_si, zln_sr, zln_sl, zln_sa, zln_sq, znx_si, znx_sr, znx_sl, znx_sa, znx_sq, hO.f.1, hO.f.2.2.2.2.1, hO.sn.1, hO.sn.2, if_true, w1, w2, n2]
  by_cases hx : zin x 2
  · rw [if_neg (by have := hx.1; omega), if_pos (by exact hx.2), if_pos hx]
    obtain ⟨ex, hk⟩ := zin_n hx
    generalize x.toNatClampNeg = k at *
    subst ex
    simp only [eq_true hx, and_self, if_true]
    rcases hS.1 k hk with ⟨e1, e2⟩ | ⟨C, e1, e2, e3, e4, e5, e6, e7⟩
    · rw [e1, e2]
      exact zOC.same hI0 _
    · have hC := hG.2.2.1 k hk C e1
      have es := s_hasSizeOf e5.2.2.2.1 hO.c.2.2.2.1 e7.1 hR.2.2.1.1 hC.1.2 hC.2.1.2 hG.1.1.2 hG.1.2.1.2 (d + 18)
      rw [e1, e2]
      simp only [zlt_e, onR_s, nul_s, nul_n, chk_e, bnI_s, bnR_s, bnV_s, zi_si, zi_sr, zi_sl, zi_sa, zi_sq, zr_si, zr_sr, zr_sl, zr_sa, zr_sq, zl_si, zl_sr, zl_sl, zl_sa, zl_sq, zai_si, zai_sr, zai_sl, zai_sa, zai_sq, zar_si, zar_sr, zar_sl, zar_sa, zar_sq, zkd_si, zkd_sr, zkd_sl, zkd_sa, zkd_sq, zln_si, zln_sr, zln_sl, zln_sa, zln_sq, znx_si, znx_sr, znx_sl, znx_sa, znx_sq, hO.f.1, hO.f.2.1, hO.c.1, hO.c.2.1, hO.c.2.2.2.1.1, e5.1, e5.2.1, e5.2.2.2.1.1, if_true, es, zb_0]
      by_cases hs : cW C = cW (aC A) ∧ cH C = cH (aC A)
      · rw [if_neg (fun q => q hs), if_pos hs]
        obtain ⟨τ, h1, h2, h3⟩ := s_pixDiff hG hI0 e5 e6 e7 hC (by omega) hs.1 hs.2 (d + 12)
        simp only [bnI_s, h1]
        exact ⟨τ, q, u, P, rfl, h3, h2.mono (fun a ha => by unfold inRS at ha; omega)⟩
      · rw [if_pos hs, if_neg hs]
        exact zOC.same hI0 _
  · have hx' : ¬ (0 ≤ x.toInt ∧ x.toInt < 2) := hx
    rw [if_neg hx]
    by_cases h1 : x.toInt < 0
    · rw [if_pos h1]; exact zOC.same hI0 _
    · rw [if_neg h1, if_neg (by omega)]; exact zOC.same hI0 _
def rExc (A : zW) (x : Int32) : Int32 := if 0 ≤ x.toInt ∧ x.toInt + 1 < cN (aC A) then iI (difI (aC A) (mvC (aC A) x.toNatClampNeg (x.toNatClampNeg + 1))) else -1001
/-- the draft takes the composition -/
theorem s_draft {σ : zS} {o B : Nat} {A : zW} {q u P : Nat → Nat} (hG : GA A B) (hI : CIx σ o A q u P) (d : Nat) : ∃ τ r, zEv (d + 5) mX0_copyFrom [.inr (.inl (some (o + 29))), .inr (.inl (some (o + 1)))] σ = some (none, τ) ∧ zFr (fun a => o + 29 ≤ a ∧ a < o + 57) σ τ ∧ CIx τ o A q u P ∧ CmQ τ (o + 29) r ∧ CmV τ (o + 29) r (aC A) := by
  obtain ⟨r, hr⟩ := hI.2.1
  have hO := hI.1.1
  obtain ⟨τ, h1, h2, h3⟩ := s_ccopy hO.dr hO.c (by omega) hr hI.1.2.1 hI.1.2.2.1 hG.1 d
  have hr2 := hr.fr h2 (by omega)
  exact ⟨τ, r, h1, h2.mono (fun a ha => by unfold inC at ha; omega), hI.ask hG (h2.mono (fun a ha => by unfold inC at ha; unfold inAsk; omega)) hr2, hr2, h3⟩
theorem c_exchangeDifference {σ : zS} {o B : Nat} {A : zW} {q u P : Nat → Nat} (hG : GA A B) (hI : CIx σ o A q u P) (x : Int32) (d : Nat) : zOC o (zEv (d + 20) mX10_exchangeDifference [.inr (.inl (some o)), .inl x] σ) (rExc A x) A σ := by
  have hO := hI.1.1
  have hn8 := hG.1.2.2.1
  have e1 : nI (cN (aC A)) - 2 = iI ((cN (aC A) : Int) - 2) := by rw [i_nI, show (2 : Int32) = iI 2 from rfl, i_sub]
  have w1 : ((0 : Int32) ≤ x ∧ x ≤ iI ((cN (aC A) : Int) - 2)) ↔ 0 ≤ x.toInt ∧ x.toInt + 1 < cN (aC A) := by
    rw [show ((0 : Int32) ≤ x ∧ x ≤ iI ((cN (aC A) : Int) - 2)) ↔ 0 ≤ x.toInt ∧ x.toInt ≤ (cN (aC A) : Int) - 2 from w_in (a := 0) (b := (cN (aC A) : Int) - 2) (by decide) (by decide) (by omega) (by omega)]
    omega
  rw [vX10_exchangeDifference]
  unfold fX10_exchangeDifference rExc
  simp only [zlt_e, onR_s, nul_s, nul_n, chk_e, bnI_s, bnR_s, bnV_s, zi_si, zi_sr, zi_sl, zi_sa, zi_sq, zr_si, zr_sr, zr_sl, zr_sa, zr_sq, zl_si, zl_sr, zl_sl, zl_sa, zl_sq, zai_si, zai_sr, zai_sl, zai_sa, zai_sq, zar_si, zar_sr, zar_sl, zar_sa, zar_sq, zkd_si, zkd_sr, zkd_sl, zkd_sa, zkd_sq, zln_si, zln_sr, zln_sl, zln_sa, zln_sq, znx_si, znx_sr, znx_sl, znx_sa, znx_sq, hO.f.1, hO.f.2.1, hO.c.1, if_true, s_layerCount hO.c, hI.1.2.2.1.2.1, e1, s_within, w1, zb_0]
  by_cases hx : 0 ≤ x.toInt ∧ x.toInt + 1 < cN (aC A)
  · rw [if_neg (fun q => q hx), if_pos hx]
    have ex : x = nI x.toNatClampNeg := n_of hx.1
    have ek : x.toNatClampNeg = x.toInt.toNat := rfl
    have hk : x.toNatClampNeg + 1 < cN (aC A) := by omega
    generalize x.toNatClampNeg = k at *
    subst ex
    obtain ⟨τ, r, a1, a2, a3, a4, a5⟩ := s_draft hG hI (d + 14)
    have hO2 := a3.1.1
    obtain ⟨υ, b1, b2, b3, b4, b5⟩ := s_shift hO2.dr a4 a5.2.1 hn8 (show k < cN (aC A) by omega) hk (d + 17)
    have hI3 : CIx υ o A q u P := a3.ask hG (b2.mono (fun a ha => by unfold inAsk; omega)) b5
    have hO3 := hI3.1.1
    have hv3 : CmV υ (o + 29) (fun i => r (mvN k (k + 1) i)) (mvC (aC A) k (k + 1)) := ⟨a5.1.fr b2 (by omega) (by omega), (b4 _ _).trans a5.2.1, fun i hi => by
      have hj := mvN_lt (show k < cN (aC A) by omega) hk (show i < cN (aC A) from hi)
      have hqj := (a4.1 (mvN k (k + 1) i) (by omega)).2
      exact (a5.2.2 (mvN k (k + 1) i) hj).fr b2 (fun a ha => by unfold inL at ha; omega)⟩
    obtain ⟨ω, c1, c2, c3⟩ := s_pixDiff hG hI3 hO3.dr b5 hv3 (hG.1.mv (by omega) hk) (by omega) rfl rfl (d + 12)
    simp only [zlt_e, onR_s, nul_s, nul_n, chk_e, bnI_s, bnR_s, bnV_s, zi_si, zi_sr, zi_sl, zi_sa, zi_sq, zr_si, zr_sr, zr_sl, zr_sa, zr_sq, zl_si, zl_sr, zl_sl, zl_sa, zl_sq, zai_si, zai_sr, zai_sl, zai_sa, zai_sq, zar_si, zar_sr, zar_sl, zar_sa, zar_sq, zkd_si, zkd_sr, zkd_sl, zkd_sa, zkd_sq, zln_si, zln_sr, zln_sl, zln_sa, zln_sq, znx_si, znx_sr, znx_sl, znx_sa, znx_sq, nI_1, hO.f.1, hO.f.2.1, hO.f.2.2.1, hO.dr.1, if_true, a1, hO2.f.1, hO2.f.2.2.1, hO2.dr.1, b1, hO3.f.1, hO3.f.2.2.1, c1]
    exact ⟨ω, q, u, P, rfl, c3, (a2.mono (fun a ha => by omega)).tr ((b2.mono (fun a ha => by omega)).tr (c2.mono (fun a ha => by unfold inRS at ha; omega)))⟩
  · rw [if_pos hx, if_neg hx]
    exact zOC.same hI _
theorem s_without {σ : zS} {o B k : Nat} {A : zW} {q u P : Nat → Nat} (hG : GA A B) (hI : CIx σ o A q u P) (hs : PicV σ (o + 253) (cW (aC A)) (cH (aC A)) (outI (aC A) (cN (aC A)))) (hk : k < cN (aC A)) (d : Nat) : ∃ τ, zEv (d + 7) mX10_changeWithout [.inr (.inl (some o)), .inl (nI k)] σ = some (some (.inl (iI (effI (aC A) k))), τ) ∧ zFr (inAsk o) σ τ ∧ CIx τ o A q u P ∧ PicV τ (o + 253) (cW (aC A)) (cH (aC A)) (outI (aC A) (cN (aC A))) := by
  have hO := hI.1.1
  have hn8 := hG.1.2.2.1
  have e1 : nI (cN (aC A)) - 1 = iI ((cN (aC A) : Int) - 1) := by rw [i_nI, show (1 : Int32) = iI 1 from rfl, i_sub]
  obtain ⟨τ, r, a1, a2, a3, a4, a5⟩ := s_draft hG hI (d + 1)
  have hO2 := a3.1.1
  have hrk := (a4.1 k (by omega)).2
  have hls := hO2.dr.2.2.2.2.2.2 (r k) hrk
  have g1 : zFr (inL (o + 29 + 4 + 3 * r k)) τ (zsi τ (128 + 5) (o + 29 + 4 + 3 * r k) (iI 0)) := zFr.si _ (by unfold inL; omega)
  have hl2 := (a5.2.2 k hk).si (j := 5) (by decide) 0
  have hr2 := a4.fr g1 (by unfold inL; omega)
  have hv2 : CmV (zsi τ (128 + 5) (o + 29 + 4 + 3 * r k) (iI 0)) (o + 29) r (offC (aC A) k) := by
    refine ⟨a5.1.fr g1 (by unfold inL; omega) (by unfold inL; omega), (g1.i (by unfold inL; omega) _).trans a5.2.1, fun i hi => ?_⟩
    have hi : i < cN (aC A) := hi
    show LyV _ _ (if i = k then upR (cL (aC A) k) 5 0 else cL (aC A) i)
    by_cases e : i = k
    · rw [if_pos e, e]; exact hl2
    · rw [if_neg e]
      have hri := (a4.1 i (by omega)).2
      have hne : r i ≠ r k := fun q' => e (a4.2 i k (by omega) (by omega) q')
      exact (a5.2.2 i hi).fr g1 (fun a ha hb => by unfold inL at ha hb; omega)
  have hI2 : CIx (zsi τ (128 + 5) (o + 29 + 4 + 3 * r k) (iI 0)) o A q u P := a3.ask hG (g1.mono (fun a ha => by unfold inL at ha; unfold inAsk; omega)) hr2
  have hs2 : PicV (zsi τ (128 + 5) (o + 29 + 4 + 3 * r k) (iI 0)) (o + 253) (cW (aC A)) (cH (aC A)) (outI (aC A) (cN (aC A))) := (hs.fr a2 (by omega) (by omega)).fr g1 (by unfold inL; omega) (by unfold inL; omega)
  have hO3 := hI2.1.1
  have GO := hG.1.off hk
  obtain ⟨υ, k1, k2, k3⟩ := s_renderStack hO3.rd hO3.dr hr2 hv2 GO hO3.cp (Nat.le_refl _) (by omega) (by omega) (by omega) d
  have g2 : zFr (inRS o) (zsi τ (128 + 5) (o + 29 + 4 + 3 * r k) (iI 0)) υ := k2.mono (fun a ha => by unfold inRP inP at ha; unfold inRS; omega)
  have hI3 := hI2.rs hG g2
  have hO4 := hI3.1.1
  have hs3 := hs2.fr k2 (by unfold inRP inP; omega) (by unfold inRP inP; omega)
  have ed := s_absDiff hO4.sh hO4.cp hs3 k3 hG.1.1.2 hG.1.2.1.2 (outI_R hG.1 _ (Nat.le_refl _)) (outI_R GO _ (Nat.le_refl _)) (d + 4)
  have b0 : zB 0 = True := eq_true (Or.inl rfl)
  have k1' : zEv (d + 6) mX7_renderStack [.inr (.inl (some (o + 249))), .inr (.inl (some (o + 29))), .inl (iI ((cN (aC A) : Int) - 1)), .inr (.inl (some (o + 255)))] (zsi τ 133 (o + 29 + 4 + 3 * r k) 0) = some (none, υ) := k1
  refine ⟨υ, ?_, (a2.mono (fun a ha => Or.inl ha)).tr ((g1.mono (fun a ha => by unfold inL at ha; omega)).tr (g2.mono (fun a ha => Or.inr ha))), hI3, hs3⟩
  have ec : zEv (d + 6) mX0_layerCount [.inr (.inl (some (o + 29)))] (zsi τ 133 (o + 29 + 4 + 3 * r k) 0) = some (some (.inl (nI (cN (aC A)))), zsi τ 133 (o + 29 + 4 + 3 * r k) 0) := by
    have := s_layerCount hO3.dr (d + 5)
    rw [hv2.2.1] at this
    exact this
  rw [vX10_changeWithout]
  unfold fX10_changeWithout
  simp only [zlt_e, onR_s, nul_s, nul_n, chk_e, bnI_s, bnR_s, bnV_s, zi_si, zi_sr, zi_sl, zi_sa, zi_sq, zr_si, zr_sr, zr_sl, zr_sa, zr_sq, zl_si, zl_sr, zl_sl, zl_sa, zl_sq, zai_si, zai_sr, zai_sl, zai_sa, zai_sq, zar_si, zar_sr, zar_sl, zar_sa, zar_sq, zkd_si, zkd_sr, zkd_sl, zkd_sa, zkd_sq, zln_si, zln_sr, zln_sl, zln_sa, zln_sq, znx_si, znx_sr, znx_sl, znx_sa, znx_sq, hO.f.1, hO.f.2.1, hO.f.2.2.1, hO.dr.1, if_true, a1, hO2.f.1, hO2.f.2.2.1, hO2.dr.1, s_layerAt hO2.dr a4 a5.2.1 hn8 hk, hls.1, b0, and_self, ec, e1, hO2.f.2.2.2.2.2.2.2.1, hO2.f.2.2.2.2.2.2.2.2.2, hO2.rd.1, k1', hO4.f.1, hO4.f.2.2.2.2.2.2.2.2.1, hO4.f.2.2.2.2.2.2.2.2.2, hO4.sh.1, ed]
  rfl
def rEff (A : zW) (x : Int32) : Int32 := if zin x (cN (aC A)) then iI (effI (aC A) x.toNatClampNeg) else -1001
theorem c_effect {σ : zS} {o B : Nat} {A : zW} {q u P : Nat → Nat} (hG : GA A B) (hI : CIx σ o A q u P) (x : Int32) (d : Nat) : zOC o (zEv (d + 20) mX10_effect [.inr (.inl (some o)), .inl x] σ) (rEff A x) A σ := by
  have hR := hI.1
  have hO := hR.1
  have hn8 := hG.1.2.2.1
  have e1 : nI (cN (aC A)) - 1 = iI ((cN (aC A) : Int) - 1) := by rw [i_nI, show (1 : Int32) = iI 1 from rfl, i_sub]
  rw [vX10_effect]
  unfold fX10_effect rEff
  simp only [zlt_e, onR_s, nul_s, nul_n, chk_e, bnI_s, bnR_s, bnV_s, zi_si, zi_sr, zi_sl, zi_sa, zi_sq, zr_si, zr_sr, zr_sl, zr_sa, zr_sq, zl_si, zl_sr, zl_sl, zl_sa, zl_sq, zai_si, zai_sr, zai_sl, zai_sa, zai_sq, zar_si, zar_sr, zar_sl, zar_sa, zar_sq, zkd_si, zkd_sr, zkd_sl, zkd_sa, zkd_sq, zln_si, zln_sr, zln_sl, zln_sa, zln_sq, znx_si, znx_sr, znx_sl, znx_sa, znx_sq, hO.f.1, hO.f.2.1, hO.c.1, if_true]
  by_cases hx : zin x (cN (aC A))
  · obtain ⟨ex, hk⟩ := zin_n hx
    generalize x.toNatClampNeg = k at *
    subst ex
    rw [if_pos hx]
    obtain ⟨τ, h1, h2, h3, h4⟩ := s_shown hG hI (Nat.le_refl _) (d + 13)
    have hO2 := h3.1.1
    obtain ⟨υ, k1, k2, k3, k4⟩ := s_without hG h3 h4 hk (d + 12)
    simp only [zlt_e, onR_s, nul_s, nul_n, chk_e, bnI_s, bnR_s, bnV_s, zi_si, zi_sr, zi_sl, zi_sa, zi_sq, zr_si, zr_sr, zr_sl, zr_sa, zr_sq, zl_si, zl_sr, zl_sl, zl_sa, zl_sq, zai_si, zai_sr, zai_sl, zai_sa, zai_sq, zar_si, zar_sr, zar_sl, zar_sa, zar_sq, zkd_si, zkd_sr, zkd_sl, zkd_sa, zkd_sq, zln_si, zln_sr, zln_sl, zln_sa, zln_sq, znx_si, znx_sr, znx_sl, znx_sa, znx_sq, s_layerAt hO.c hR.2.1 hR.2.2.1.2.1 hn8 hk, hO.f.1, hO.f.2.1, hO.f.2.2.2.2.2.2.2.1, hO.f.2.2.2.2.2.2.2.2.1, hO.rd.1, hO.c.1, if_true, s_layerCount hO.c, hR.2.2.1.2.1, e1, h1, hO2.f.1, k1]
    exact ⟨υ, q, u, P, rfl, k3, (h2.mono (fun a ha => by omega)).tr (k2.mono (fun a ha => by unfold inAsk at ha; omega))⟩
  · rw [if_neg hx]
    simp only [zlt_e, onR_s, nul_s, nul_n, chk_e, bnI_s, bnR_s, bnV_s, zi_si, zi_sr, zi_sl, zi_sa, zi_sq, zr_si, zr_sr, zr_sl, zr_sa, zr_sq, zl_si, zl_sr, zl_sl, zl_sa, zl_sq, zai_si, zai_sr, zai_sl, zai_sa, zai_sq, zar_si, zar_sr, zar_sl, zar_sa, zar_sq, zkd_si, zkd_sr, zkd_sl, zkd_sa, zkd_sq, zln_si, zln_sr, zln_sl, zln_sa, zln_sq, znx_si, znx_sr, znx_sl, znx_sa, znx_sq, s_layerNo hO.c hR.2.2.1.2.1 hn8 hx]
    exact zOC.same hI _
/-- the strongest of the first n, and its effect -/
def stgI (C : zC) : Nat → Int × Int
  | 0 => (-1009, -1)
  | n + 1 => if effI C n ≤ (stgI C n).2 then stgI C n else ((n : Int), effI C n)
theorem stgI_R {C : zC} (h : GC C) : ∀ n, n ≤ cN C → -1 ≤ (stgI C n).2 ∧ (stgI C n).2 ≤ 65280
  | 0, _ => ⟨by show (-1 : Int) ≤ -1; decide, by show (-1 : Int) ≤ 65280; decide⟩
  | n + 1, hn => by
    have ih := stgI_R h n (by omega)
    have he := effI_R h (show n < cN C by omega)
    unfold stgI
    split
    · exact ih
    · exact ⟨by show -1 ≤ effI C n; omega, he.2⟩
def rStg (A : zW) : Int32 := iI (stgI (aC A) (cN (aC A))).1
theorem c_strongestLayer {σ : zS} {o B : Nat} {A : zW} {q u P : Nat → Nat} (hG : GA A B) (hI : CIx σ o A q u P) (d : Nat) : zOC o (zEv (d + 20) mX10_strongestLayer [.inr (.inl (some o))] σ) (rStg A) A σ := by
  have hR := hI.1
  have hO := hR.1
  have hn8 := hG.1.2.2.1
  have e1 : nI (cN (aC A)) - 1 = iI ((cN (aC A) : Int) - 1) := by rw [i_nI, show (1 : Int32) = iI 1 from rfl, i_sub]
  obtain ⟨τ, h1, h2, h3, h4⟩ := s_shown hG hI (Nat.le_refl _) (d + 13)
  rw [vX10_strongestLayer]
  unfold fX10_strongestLayer rStg
  simp only [zlt_e, onR_s, nul_s, nul_n, chk_e, bnI_s, bnR_s, bnV_s, zi_si, zi_sr, zi_sl, zi_sa, zi_sq, zr_si, zr_sr, zr_sl, zr_sa, zr_sq, zl_si, zl_sr, zl_sl, zl_sa, zl_sq, zai_si, zai_sr, zai_sl, zai_sa, zai_sq, zar_si, zar_sr, zar_sl, zar_sa, zar_sq, zkd_si, zkd_sr, zkd_sl, zkd_sa, zkd_sq, zln_si, zln_sr, zln_sl, zln_sa, zln_sq, znx_si, znx_sr, znx_sl, znx_sa, znx_sq, hO.f.1, hO.f.2.1, hO.f.2.2.2.2.2.2.2.1, hO.f.2.2.2.2.2.2.2.2.1, hO.rd.1, hO.c.1, if_true, s_layerCount hO.c, hR.2.2.1.2.1, e1, h1]
  obtain ⟨⟨υ, a, b, z⟩, l1, l2⟩ := loop_from (fun k (s : zS × Int32 × Int32 × zV) => LX10_strongestLayer_32 (zEv (d + 19)) o s.2.1 s.2.2.1 (nI k) s.2.2.2 s.1) (fun k s => zFr (fun a => o ≤ a ∧ a < o + 257) σ s.1 ∧ CIx s.1 o A q u P ∧ PicV s.1 (o + 253) (cW (aC A)) (cH (aC A)) (outI (aC A) (cN (aC A))) ∧ s.2.1 = iI (stgI (aC A) k).1 ∧ s.2.2.1 = iI (stgI (aC A) k).2) 0 (cN (aC A)) (fun s => some (some (.inl s.2.1), s.1)) (τ, -1009, -1, .inr (.inr none)) (Nat.zero_le _) ⟨h2.mono (fun a ha => by omega), h3, h4, rfl, rfl⟩
    (fun k s hk hI => by
      obtain ⟨g, gI, gs, ga, gb⟩ := hI
      obtain ⟨υ, k1, k2, k3, k4⟩ := s_without hG gI gs hk (d + 12)
      have hO2 := gI.1.1
      have r1 := stgI_R hG.1 k (by omega)
      have r2 := effI_R hG.1 hk
      have hle : (iI (effI (aC A) k) ≤ iI (stgI (aC A) k).2) ↔ effI (aC A) k ≤ (stgI (aC A) k).2 := i_le (by omega) (by omega) (by omega) (by omega)
      have e : stgI (aC A) (k + 1) = if effI (aC A) k ≤ (stgI (aC A) k).2 then stgI (aC A) k else ((k : Int), effI (aC A) k) := rfl
      refine ⟨(υ, iI (stgI (aC A) (k + 1)).1, iI (stgI (aC A) (k + 1)).2, .inl (iI (effI (aC A) k))), ?_, g.tr (k2.mono (fun a ha => by unfold inAsk at ha; omega)), k3, k4, rfl, rfl⟩
      show LX10_strongestLayer_32 _ _ _ _ _ _ _ = LX10_strongestLayer_32 _ _ _ _ _ _ _
      rw [uX10_strongestLayer_32]
      simp only [zlt_e, onR_s, nul_s, nul_n, chk_e, bnI_s, bnR_s, bnV_s, zi_si, zi_sr, zi_sl, zi_sa, zi_sq, zr_si, zr_sr, zr_sl, zr_sa, zr_sq, zl_si, zl_sr, zl_sl, zl_sa, zl_sq, zai_si, zai_sr, zai_sl, zai_sa, zai_sq, zar_si, zar_sr, zar_sl, zar_sa, zar_sq, zkd_si, zkd_sr, zkd_sl, zkd_sa, zkd_sq, zln_si, zln_sr, zln_sl, zln_sa, zln_sq, znx_si, znx_sr, znx_sl, znx_sa, znx_sq, hO2.f.1, hO2.f.2.1, hO2.c.1, if_true, s_layerCount hO2.c, gI.1.2.2.1.2.1, n_lt (show k < 2 ^ 31 by omega) (show cN (aC A) < 2 ^ 31 by omega), hk, k1, ga, gb, hle, nI_1]
      by_cases h : effI (aC A) k ≤ (stgI (aC A) k).2
      · rw [if_pos h, e, if_pos h]
      · rw [if_neg h, e, if_neg h, i_nI k])
    (fun s hI => by
      have hO2 := hI.2.1.1.1
      rw [uX10_strongestLayer_32]
      simp only [zlt_e, onR_s, nul_s, nul_n, chk_e, bnI_s, bnR_s, bnV_s, zi_si, zi_sr, zi_sl, zi_sa, zi_sq, zr_si, zr_sr, zr_sl, zr_sa, zr_sq, zl_si, zl_sr, zl_sl, zl_sa, zl_sq, zai_si, zai_sr, zai_sl, zai_sa, zai_sq, zar_si, zar_sr, zar_sl, zar_sa, zar_sq, zkd_si, zkd_sr, zkd_sl, zkd_sa, zkd_sq, zln_si, zln_sr, zln_sl, zln_sa, zln_sq, znx_si, znx_sr, znx_sl, znx_sa, znx_sq, hO2.f.1, hO2.f.2.1, hO2.c.1, if_true, s_layerCount hO2.c, hI.2.1.1.2.2.1.2.1, n_lt (show cN (aC A) < 2 ^ 31 by omega) (show cN (aC A) < 2 ^ 31 by omega), Nat.lt_irrefl, if_false])
  have l1 : LX10_strongestLayer_32 (zEv (d + 19)) o (-1009) (-1) 0 (.inr (.inr none)) τ = _ := l1
  rw [l1]
  obtain ⟨g, gI, gs, ga, gb⟩ := l2
  have ga : a = _ := ga
  rw [ga]
  exact ⟨υ, q, u, P, rfl, gI, g⟩
