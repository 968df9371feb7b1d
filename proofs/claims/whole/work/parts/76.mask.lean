/-! calls that render: the reference's side -/
theorem OV.lin {σ : zS} {m n w h k : Nat} {px : Nat → Nat → Int} (H : OV σ m n w h px) (hk : k < h * w) (hw : 1 ≤ w) : zai σ (m + 17) (256 * n + k) = iI (lin w px k) := by
  have hx : k % w < w := Nat.mod_lt _ (by omega)
  have hy : k / w < h := (Nat.div_lt_iff_lt_mul (by omega)).mpr hk
  have := H _ _ hx hy
  rw [Nat.mul_comm (k / w) w, Nat.div_add_mod] at this
  exact this
theorem wh256 {w h : Nat} (hw : w ≤ 16) (hh : h ≤ 16) : h * w ≤ 256 := Nat.mul_le_mul hh hw
theorem s_mtop {σ : zS} {m : Nat} {C : zC} (hM : MS σ m) (hV : MV σ (m + 1) 0 C) (d : Nat) : zEv (d + 1) mX11_top [.inr (.inl (some m))] σ = some (some (.inl (iI ((cN C : Int) - 1))), σ) := by
  have t2 : (258 : Int32).toNatClampNeg = 258 := rfl
  have z258 : zin 258 515 = True := eq_true (by decide)
  have vn : zai σ (m + 1) 258 = nI (cN C) := hV.2.2.2.1
  rw [vX11_top]
  unfold fX11_top
  simp only [chk_e, onR_s, hM.k, hM.s.1, hM.s.2.1, hM.s.2.2, z258, t2, and_self, if_true, vn]
  rw [i_nI, show (1 : Int32) = iI 1 from rfl, i_sub]
theorem s_pixels {σ : zS} {m : Nat} {C : zC} (hM : MS σ m) (hV : MV σ (m + 1) 0 C) (d : Nat) : zEv (d + 1) mX11_pixels [.inr (.inl (some m))] σ = some (some (.inl (nI (cH C * cW C))), σ) := by
  have t0 : (0 : Int32).toNatClampNeg = 0 := rfl
  have t1 : (1 : Int32).toNatClampNeg = 1 := rfl
  have z0 : zin 0 515 = True := eq_true (by decide)
  have z1 : zin 1 515 = True := eq_true (by decide)
  have v0 : zai σ (m + 1) 0 = nI (cW C) := hV.1
  have v1 : zai σ (m + 1) 1 = nI (cH C) := hV.2.1
  rw [vX11_pixels]
  unfold fX11_pixels
  simp only [chk_e, onR_s, hM.k, hM.s.1, hM.s.2.1, hM.s.2.2, z0, t0, z1, t1, and_self, if_true, v0, v1, pk_mul]
  rw [Nat.mul_comm]
theorem s_isOutput {σ : zS} {m : Nat} {C : zC} (hM : MS σ m) (hV : MV σ (m + 1) 0 C) (hn8 : cN C ≤ 8) (x : Int32) (d : Nat) : zEv (d + 3) mX11_isOutput [.inr (.inl (some m)), .inl x] σ = some (some (.inl (zb (-1 ≤ x.toInt ∧ x.toInt < cN C))), σ) := by
  have b1 : zB 1 = True := eq_true (Or.inr rfl)
  have b0 : zB 0 = True := eq_true (Or.inl rfl)
  have w1 : x = (-1) ↔ x.toInt = -1 := by
    rw [show (-1 : Int32) = iI (-1) from rfl, ← Int32.toInt_inj, i_toInt (by decide) (by decide)]
  rw [vX11_isOutput]
  unfold fX11_isOutput
  simp only [chk_e, bnI_s, hM.k, if_true, s_misLayer hM hV hn8, zb_0, b1, b0, w1]
  by_cases h1 : x.toInt = -1
  · rw [if_pos h1, zb_t (by omega)]
  · rw [if_neg h1]
    by_cases h2 : zin x (cN C)
    · rw [if_neg (fun q => q h2), zb_t (by have := h2.1; have := h2.2; omega)]
    · rw [if_pos h2, zb_f (fun q => h2 ⟨by omega, q.2⟩)]
/-- a computing leaves the state -/
theorem MIx.cmp {σ τ : zS} {m : Nat} {A : zW} (h : MIx σ m A) (g : zFr (inM m) σ τ) (k : keepM m σ τ) : MIx τ m A := h.fr g (fun a _ _ => by unfold inM; omega) (fun f hf => k f (by omega) (by omega))
theorem m_sum {σ : zS} {m B : Nat} {A : zW} (hG : GA A B) (hI : MIx σ m A) (x : Int32) (d : Nat) : zOM m (zEv (d + 20) mX11_sum [.inr (.inl (some m)), .inl x] σ) (rSum A x) A σ := by
  have hI1 := hI.th
  have hn8 := hG.1.2.2.1
  have hw := hG.1.1
  have hh := hG.1.2.1
  have hwh := wh256 hw.2 hh.2
  have g0 : zFr (fun a => m ≤ a ∧ a < m + 22) σ (zsi σ 576 m 0) := zFr.si σ (by omega)
  have key : ∀ r, zOM m (some (some (.inl r), zsi σ 576 m 0)) r A σ := fun r => zOM.same hI r
  rw [vX11_sum]
  unfold fX11_sum rSum
  simp only [zlt_e, chk_e, hI.1.k, if_true]
  generalize zsi σ 576 m 0 = σ1 at *
  simp only [zlt_e, chk_e, bnI_s, hI1.1.k, if_true, s_isOutput hI1.1 hI1.2.1 hn8, zb_0]
  by_cases hx : -1 ≤ x.toInt ∧ x.toInt < cN (aC A)
  · rw [if_neg (fun q => q hx), if_pos hx]
    obtain ⟨k, ex, hk, ek⟩ := hOut_n hx
    obtain ⟨τ, h1, h2, h3, h4⟩ := s_compute hI1.1 hI1.2.1 hG.1 hk (d + 13)
    have hI2 := hI1.cmp h2 h3
    rw [ek, ex]
    simp only [h1, bnI_s]
    obtain ⟨t, a1, a2⟩ := loop_from (fun j (t : Int32) => LX11_sum_28 (zEv (d + 19)) m (.inl (iI ((k : Int) - 1))) (nI (256 * k)) t (nI j) τ) (fun j t => t = iI (sm (lin (cW (aC A)) (outI (aC A) k)) j)) 0 (cH (aC A) * cW (aC A)) (fun t => some (some (.inl t), τ)) 0 (Nat.zero_le _) rfl
      (fun j t hj hIj => by
        have hIj : t = _ := hIj
        have ev := h4.lin hj (by omega)
        refine ⟨iI (sm (lin (cW (aC A)) (outI (aC A) k)) (j + 1)), ?_, rfl⟩
        show LX11_sum_28 _ _ _ _ _ _ _ = LX11_sum_28 _ _ _ _ _ _ _
        rw [uX11_sum_28, hIj]
        simp only [zlt_e, onR_s, nul_s, nul_n, chk_e, bnI_s, bnR_s, bnV_s, zi_si, zi_sr, zi_sl, zi_sa, zi_sq, zr_si, zr_sr, zr_sl, zr_sa, zr_sq, zl_si, zl_sr, zl_sl, zl_sa, zl_sq, zai_si, zai_sr, zai_sl, zai_sa, zai_sq, zar_si, zar_sr, zar_sl, zar_sa, zar_sq, zkd_si, zkd_sr, zkd_sl, zkd_sa, zkd_sq, zln_si, zln_sr, zln_sl, zln_sa, zln_sq, znx_si, znx_sr, znx_sl, znx_sa, znx_sq, hI2.1.k, hI2.1.o.1, hI2.1.o.2.1, hI2.1.o.2.2, if_true, s_pixels hI2.1 hI2.2.1, n_lt (show j < 2 ^ 31 by omega) (show cH (aC A) * cW (aC A) < 2 ^ 31 by omega), hj, nI_add, n_zin (show 256 * k + j < 2 ^ 31 by omega), n_tn (show 256 * k + j < 2 ^ 31 by omega), show 256 * k + j < 2304 by omega, and_self, ev, i_add, nI_1]
        rfl)
      (fun t hIj => by
        rw [uX11_sum_28]
        simp only [zlt_e, onR_s, nul_s, nul_n, chk_e, bnI_s, bnR_s, bnV_s, zi_si, zi_sr, zi_sl, zi_sa, zi_sq, zr_si, zr_sr, zr_sl, zr_sa, zr_sq, zl_si, zl_sr, zl_sl, zl_sa, zl_sq, zai_si, zai_sr, zai_sl, zai_sa, zai_sq, zar_si, zar_sr, zar_sl, zar_sa, zar_sq, zkd_si, zkd_sr, zkd_sl, zkd_sa, zkd_sq, zln_si, zln_sr, zln_sl, zln_sa, zln_sq, znx_si, znx_sr, znx_sl, znx_sa, znx_sq, hI2.1.k, if_true, s_pixels hI2.1 hI2.2.1, n_lt (show cH (aC A) * cW (aC A) < 2 ^ 31 by omega) (show cH (aC A) * cW (aC A) < 2 ^ 31 by omega), Nat.lt_irrefl, if_false])
    have a2 : t = _ := a2
    have a1 : LX11_sum_28 (zEv (d + 19)) m (.inl (iI ((k : Int) - 1))) (nI (256 * k)) 0 0 τ = _ := a1
    rw [a1, a2]
    exact ⟨τ, rfl, hI2, g0.tr (h2.mono (fun a ha => by unfold inM at ha; omega))⟩
  · rw [if_pos hx, if_neg hx]
    exact key _
theorem m_histogram {σ : zS} {m B : Nat} {A : zW} (hG : GA A B) (hI : MIx σ m A) (x lo hi : Int32) (d : Nat) : zOM m (zEv (d + 20) mX11_histogram [.inr (.inl (some m)), .inl x, .inl lo, .inl hi] σ) (rHist A x lo hi) A σ := by
  have hI1 := hI.th
  have hn8 := hG.1.2.2.1
  have hw := hG.1.1
  have hh := hG.1.2.1
  have hwh := wh256 hw.2 hh.2
  have g0 : zFr (fun a => m ≤ a ∧ a < m + 22) σ (zsi σ 576 m 0) := zFr.si σ (by omega)
  have key : ∀ r, zOM m (some (some (.inl r), zsi σ 576 m 0)) r A σ := fun r => zOM.same hI r
  have w1 : ((0 : Int32) ≤ lo ∧ lo ≤ 255) ↔ 0 ≤ lo.toInt ∧ lo.toInt ≤ 255 := w_in (a := 0) (b := 255) (by decide) (by decide) (by decide) (by decide)
  have w2 : (lo ≤ hi ∧ hi ≤ 255) ↔ lo.toInt ≤ hi.toInt ∧ hi.toInt ≤ 255 := by rw [Int32.le_iff_toInt_le, Int32.le_iff_toInt_le]; exact Iff.rfl
  rw [vX11_histogram]
  unfold fX11_histogram rHist
  simp only [zlt_e, chk_e, hI.1.k, if_true]
  generalize zsi σ 576 m 0 = σ1 at *
  simp only [zlt_e, chk_e, bnI_s, hI1.1.k, if_true, s_isOutput hI1.1 hI1.2.1 hn8, zb_0, s_in, w1, w2]
  by_cases hx : -1 ≤ x.toInt ∧ x.toInt < cN (aC A)
  · rw [if_neg (fun q => q hx)]
    by_cases hl : 0 ≤ lo.toInt ∧ lo.toInt ≤ 255
    · rw [if_neg (fun q => q hl)]
      by_cases hb : lo.toInt ≤ hi.toInt ∧ hi.toInt ≤ 255
      · rw [if_neg (fun q => q hb)]
        have hc : (-1 ≤ x.toInt ∧ x.toInt < cN (aC A)) ∧ (0 ≤ lo.toInt ∧ lo.toInt ≤ 255) ∧ lo.toInt ≤ hi.toInt ∧ hi.toInt ≤ 255 := ⟨hx, hl, hb⟩
        rw [if_pos hc]
        obtain ⟨k, ex, hk, ek⟩ := hOut_n hx
        obtain ⟨τ, h1, h2, h3, h4⟩ := s_compute hI1.1 hI1.2.1 hG.1 hk (d + 13)
        have hI2 := hI1.cmp h2 h3
        rw [ek, ex]
        simp only [h1, bnI_s]
        obtain ⟨t, a1, a2⟩ := loop_from (fun j (t : Int32) => LX11_histogram_52 (zEv (d + 19)) m (.inl (iI ((k : Int) - 1))) lo hi (nI (256 * k)) t (nI j) τ) (fun j t => t = iI (sm (lin (cW (aC A)) fun i j => inI lo.toInt hi.toInt (outI (aC A) k i j)) j)) 0 (cH (aC A) * cW (aC A)) (fun t => some (some (.inl t), τ)) 0 (Nat.zero_le _) rfl
          (fun j t hj hIj => by
            have hIj : t = _ := hIj
            have ev := h4.lin hj (by omega)
            have hp := lin_R (outI_R hG.1 k hk) (show 1 ≤ cW (aC A) by omega) j hj
            have wv : (lo ≤ iI (lin (cW (aC A)) (outI (aC A) k) j) ∧ iI (lin (cW (aC A)) (outI (aC A) k) j) ≤ hi) ↔ lo.toInt ≤ lin (cW (aC A)) (outI (aC A) k) j ∧ lin (cW (aC A)) (outI (aC A) k) j ≤ hi.toInt := by
              rw [Int32.le_iff_toInt_le, Int32.le_iff_toInt_le, i_toInt (by omega) (by omega)]
            have es : sm (lin (cW (aC A)) fun i j => inI lo.toInt hi.toInt (outI (aC A) k i j)) (j + 1) = sm (lin (cW (aC A)) fun i j => inI lo.toInt hi.toInt (outI (aC A) k i j)) j + inI lo.toInt hi.toInt (lin (cW (aC A)) (outI (aC A) k) j) := rfl
            refine ⟨iI (sm (lin (cW (aC A)) fun i j => inI lo.toInt hi.toInt (outI (aC A) k i j)) (j + 1)), ?_, rfl⟩
            show LX11_histogram_52 _ _ _ _ _ _ _ _ _ = LX11_histogram_52 _ _ _ _ _ _ _ _ _
            rw [uX11_histogram_52, hIj]
            simp only [zlt_e, onR_s, nul_s, nul_n, chk_e, bnI_s, bnR_s, bnV_s, zi_si, zi_sr, zi_sl, zi_sa, zi_sq, zr_si, zr_sr, zr_sl, zr_sa, zr_sq, zl_si, zl_sr, zl_sl, zl_sa, zl_sq, zai_si, zai_sr, zai_sl, zai_sa, zai_sq, zar_si, zar_sr, zar_sl, zar_sa, zar_sq, zkd_si, zkd_sr, zkd_sl, zkd_sa, zkd_sq, zln_si, zln_sr, zln_sl, zln_sa, zln_sq, znx_si, znx_sr, znx_sl, znx_sa, znx_sq, hI2.1.k, hI2.1.o.1, hI2.1.o.2.1, hI2.1.o.2.2, if_true, s_pixels hI2.1 hI2.2.1, n_lt (show j < 2 ^ 31 by omega) (show cH (aC A) * cW (aC A) < 2 ^ 31 by omega), hj, nI_add, n_zin (show 256 * k + j < 2 ^ 31 by omega), n_tn (show 256 * k + j < 2 ^ 31 by omega), show 256 * k + j < 2304 by omega, and_self, ev, s_in, wv, zb_0, nI_1]
            by_cases hv : lo.toInt ≤ lin (cW (aC A)) (outI (aC A) k) j ∧ lin (cW (aC A)) (outI (aC A) k) j ≤ hi.toInt
            · have e1 : inI lo.toInt hi.toInt (lin (cW (aC A)) (outI (aC A) k) j) = 1 := if_pos hv
              rw [if_neg (fun q => q hv), es, e1, show (1 : Int32) = iI 1 from rfl, i_add]
            · have e1 : inI lo.toInt hi.toInt (lin (cW (aC A)) (outI (aC A) k) j) = 0 := if_neg hv
              rw [if_pos hv, es, e1, show (0 : Int32) = iI 0 from rfl, i_add])
          (fun t hIj => by
            rw [uX11_histogram_52]
            simp only [zlt_e, onR_s, nul_s, nul_n, chk_e, bnI_s, bnR_s, bnV_s, zi_si, zi_sr, zi_sl, zi_sa, zi_sq, zr_si, zr_sr, zr_sl, zr_sa, zr_sq, zl_si, zl_sr, zl_sl, zl_sa, zl_sq, zai_si, zai_sr, zai_sl, zai_sa, zai_sq, zar_si, zar_sr, zar_sl, zar_sa, zar_sq, zkd_si, zkd_sr, zkd_sl, zkd_sa, zkd_sq, zln_si, zln_sr, zln_sl, zln_sa, zln_sq, znx_si, znx_sr, znx_sl, znx_sa, znx_sq, hI2.1.k, if_true, s_pixels hI2.1 hI2.2.1, n_lt (show cH (aC A) * cW (aC A) < 2 ^ 31 by omega) (show cH (aC A) * cW (aC A) < 2 ^ 31 by omega), Nat.lt_irrefl, if_false])
        have a2 : t = _ := a2
        have a1 : LX11_histogram_52 (zEv (d + 19)) m (.inl (iI ((k : Int) - 1))) lo hi (nI (256 * k)) 0 0 τ = _ := a1
        rw [a1, a2]
        exact ⟨τ, rfl, hI2, g0.tr (h2.mono (fun a ha => by unfold inM at ha; omega))⟩
      · rw [if_pos hb, if_neg (fun q => hb q.2.2)]
        exact key _
    · rw [if_pos hl, if_neg (fun q => hl q.2.1)]
      exact key _
  · rw [if_pos hx, if_neg (fun q => hx q.1)]
    exact key _
theorem m_maskValue {σ : zS} {m B : Nat} {A : zW} (hG : GA A B) (hI : MIx σ m A) (l x y : Int32) (d : Nat) : zOM m (zEv (d + 20) mX11_maskValue [.inr (.inl (some m)), .inl l, .inl x, .inl y] σ) (rMv_ A l x y) A σ := by
  have hI1 := hI.th
  have hn8 := hG.1.2.2.1
  have hw := hG.1.1
  have hh := hG.1.2.1
  have g0 : zFr (fun a => m ≤ a ∧ a < m + 22) σ (zsi σ 576 m 0) := zFr.si σ (by omega)
  have key : ∀ r, zOM m (some (some (.inl r), zsi σ 576 m 0)) r A σ := fun r => zOM.same hI r
  rw [vX11_maskValue]
  unfold fX11_maskValue rMv_
  simp only [zlt_e, chk_e, hI.1.k, if_true]
  generalize zsi σ 576 m 0 = σ1 at *
  simp only [zlt_e, chk_e, bnI_s, hI1.1.k, if_true, s_misLayer hI1.1 hI1.2.1 hn8, s_misPixel hI1.1 hI1.2.1 (show 1 ≤ cW (aC A) ∧ cW (aC A) ≤ 16 by omega) (show 1 ≤ cH (aC A) ∧ cH (aC A) ≤ 16 by omega), zb_0]
  by_cases hl : zin l (cN (aC A))
  · rw [if_neg (fun q => q hl)]
    by_cases hxy : zin x (cW (aC A)) ∧ zin y (cH (aC A))
    · have hc : zin l (cN (aC A)) ∧ zin x (cW (aC A)) ∧ zin y (cH (aC A)) := ⟨hl, hxy⟩
      rw [if_neg (fun q => q hxy), if_pos hc]
      obtain ⟨el, hk⟩ := zin_n hl
      obtain ⟨ex, hx⟩ := zin_n hxy.1
      obtain ⟨ey, hy⟩ := zin_n hxy.2
      generalize l.toNatClampNeg = k at *
      generalize x.toNatClampNeg = i at *
      generalize y.toNatClampNeg = j at *
      subst el
      subst ex
      subst ey
      obtain ⟨τ, h1, h2, h3, h4⟩ := s_compute hI1.1 hI1.2.1 hG.1 (show k ≤ cN (aC A) by omega) (d + 13)
      have hI2 := hI1.cmp h2 h3
      have e1 : nI k - 1 = iI ((k : Int) - 1) := by rw [i_nI, show (1 : Int32) = iI 1 from rfl, i_sub]
      have hp := outI_R hG.1 k (by omega) i j hx hy
      simp only [e1, h1, bnI_s, s_mat, hI2.1.k, if_true, s_inputAt hI2.1 hI2.2.1 hw.2 hh.2 (show k ≤ 8 by omega) h4 hx hy, s_mmaskAt hI2.1 hI2.2.1 hn8 (hG.1.2.2.2.2 k hk) hk (show i < 16 by omega) (show j < 16 by omega) hp]
      exact ⟨τ, rfl, hI2, g0.tr (h2.mono (fun a ha => by unfold inM at ha; omega))⟩
    · rw [if_pos hxy, if_neg (fun q => hxy q.2)]
      exact key _
  · rw [if_pos hl, if_neg (fun q => hl q.1)]
    exact key _
