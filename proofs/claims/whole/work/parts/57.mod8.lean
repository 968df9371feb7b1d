/-! the reference's calls that change one layer -/
theorem m_setFeather {σ : zS} {m B : Nat} {A : zW} (hG : GA A B) (hB : B < 2 ^ 30) (hI : MIx σ m A) (x p : Int32) (d : Nat) : zOM m (zEv (d + 20) mX11_setFeather [.inr (.inl (some m)), .inl x, .inl p] σ) (rFeather A x p) (tFeather A x p) σ := by
  have hn8 := hG.1.2.2.1
  have hI1 := hI.th
  have g0 : zFr (fun a => m ≤ a ∧ a < m + 22) σ (zsi σ 576 m 0) := zFr.si σ (by omega)
  have w2 : ((0 : Int32) ≤ p ∧ p ≤ 5) ↔ 0 ≤ p.toInt ∧ p.toInt ≤ 5 := w_in (a := 0) (b := 5) (by decide) (by decide) (by decide) (by decide)
  rw [vX11_setFeather]
  unfold fX11_setFeather rFeather tFeather
  simp only [zlt_e, chk_e, bnI_s, hI.1.k, if_true, zkd_si, s_misLayer hI1.1 hI1.2.1 hn8, zb_0, s_in, w2]
  by_cases hx : zin x (cN (aC A))
  · obtain ⟨ex, hk⟩ := zin_n hx
    generalize x.toNatClampNeg = k at *
    subst ex
    rw [if_neg (fun q => q hx)]
    by_cases hp : 0 ≤ p.toInt ∧ p.toInt ≤ 5
    · rw [if_neg (fun q => q hp), if_pos ⟨hx, hp⟩, if_pos ⟨hx, hp⟩]
      obtain ⟨τ, k1, k2, k3, k4⟩ := s_keep hI1.1 hI1.2.1 hG.1 hI1.2.2.1 hG.2.1.1 hG.2.1.2 (d + 18)
      have hM2 := hI1.1.fr k2
      have hV2 : MV τ (m + 1) 0 (aC A) := hI1.2.1.fr k2 (by omega)
      have v11 := hV2.r hk (show 11 < 32 by decide)
      have ep : p = iI p.toInt := i_of p
      have hV3 := (MV.st (l := cL (aC A) k) (by rw [stC_self]; exact hV2) hG.1.1.2 hG.1.2.1.2 (show 11 < 32 by decide) p.toInt)
      rw [← ep] at hV3
      have gs : zFr (fun x => x = m + 1) τ (zsa τ (m + 1) (259 + 32 * k + 11) p) := zFr.sa (P := fun x => x = m + 1) _ rfl
      have gall : zFr (fun x => x = m ∨ x = m + 1 ∨ x = m + 2) σ (zsa τ (m + 1) (259 + 32 * k + 11) p) := ((zFr.si (P := fun x => x = m ∨ x = m + 1 ∨ x = m + 2) σ (f := 576) (v := 0) (Or.inl rfl)).tr (k2.mono (fun a ha => by omega))).tr (gs.mono (fun a ha => by omega))
      obtain ⟨υ, n, l1, l2, l3, l4⟩ := s_mend hG hB hI gall (fun f f1 f2 => by rw [zi_sa, k3 f f2, zi_si, if_neg (by omega)]) hV3 (k4.fr gs (by omega) rfl) (show k < 8 by omega) (d + 18)
      simp only [zlt_e, onR_s, nul_s, nul_n, chk_e, bnI_s, bnR_s, bnV_s, zi_si, zi_sr, zi_sl, zi_sa, zi_sq, zr_si, zr_sr, zr_sl, zr_sa, zr_sq, zl_si, zl_sr, zl_sl, zl_sa, zl_sq, zai_si, zai_sr, zai_sl, zai_sa, zai_sq, zar_si, zar_sr, zar_sl, zar_sa, zar_sq, zkd_si, zkd_sr, zkd_sl, zkd_sa, zkd_sq, zln_si, zln_sr, zln_sl, zln_sa, zln_sq, znx_si, znx_sr, znx_sl, znx_sa, znx_sq, k1, hM2.k, hM2.s.1, hM2.s.2.1, hM2.s.2.2, if_true, s_mat, nL 11, nI_add, n_zin (show 259 + 32 * k + 11 < 2 ^ 31 by omega), n_tn (show 259 + 32 * k + 11 < 2 ^ 31 by omega), show 259 + 32 * k + 11 < 515 by omega, and_self, v11, l1]
      exact ⟨υ, rfl, l2, l3⟩
    · rw [if_pos hp, if_neg (fun q => hp q.2), if_neg (fun q => hp q.2)]
      exact ⟨_, rfl, hI1, g0⟩
  · rw [if_pos hx, if_neg (fun q => hx q.1), if_neg (fun q => hx q.1)]
    exact ⟨_, rfl, hI1, g0⟩
theorem m_invertMask {σ : zS} {m B : Nat} {A : zW} (hG : GA A B) (hB : B < 2 ^ 30) (hI : MIx σ m A) (x : Int32) (d : Nat) : zOM m (zEv (d + 20) mX11_invertMask [.inr (.inl (some m)), .inl x] σ) (rInvert A x) (tInvert A x) σ := by
  have hn8 := hG.1.2.2.1
  have hI1 := hI.th
  have g0 : zFr (fun a => m ≤ a ∧ a < m + 22) σ (zsi σ 576 m 0) := zFr.si σ (by omega)
  rw [vX11_invertMask]
  unfold fX11_invertMask rInvert tInvert
  simp only [zlt_e, chk_e, bnI_s, hI.1.k, if_true, zkd_si, s_misLayer hI1.1 hI1.2.1 hn8, zb_0]
  by_cases hx : zin x (cN (aC A))
  · obtain ⟨ex, hk⟩ := zin_n hx
    generalize x.toNatClampNeg = k at *
    subst ex
    rw [if_neg (fun q => q hx), if_pos hx, if_pos hx]
    obtain ⟨τ, k1, k2, k3, k4⟩ := s_keep hI1.1 hI1.2.1 hG.1 hI1.2.2.1 hG.2.1.1 hG.2.1.2 (d + 18)
    have hM2 := hI1.1.fr k2
    have hV2 : MV τ (m + 1) 0 (aC A) := hI1.2.1.fr k2 (by omega)
    have v12 := hV2.r hk (show 12 < 32 by decide)
    have e1 : nI 1 - iI (cL (aC A) k 12) = iI (1 - cL (aC A) k 12) := by rw [i_nI, i_sub]; rfl
    have hV3 := (MV.st (l := cL (aC A) k) (by rw [stC_self]; exact hV2) hG.1.1.2 hG.1.2.1.2 (show 12 < 32 by decide) (1 - cL (aC A) k 12))
    have gs : zFr (fun x => x = m + 1) τ (zsa τ (m + 1) (259 + 32 * k + 12) (iI (1 - cL (aC A) k 12))) := zFr.sa (P := fun x => x = m + 1) _ rfl
    have gall : zFr (fun x => x = m ∨ x = m + 1 ∨ x = m + 2) σ (zsa τ (m + 1) (259 + 32 * k + 12) (iI (1 - cL (aC A) k 12))) := ((zFr.si (P := fun x => x = m ∨ x = m + 1 ∨ x = m + 2) σ (f := 576) (v := 0) (Or.inl rfl)).tr (k2.mono (fun a ha => by omega))).tr (gs.mono (fun a ha => by omega))
    obtain ⟨υ, n, l1, l2, l3, l4⟩ := s_mend hG hB hI gall (fun f f1 f2 => by rw [zi_sa, k3 f f2, zi_si, if_neg (by omega)]) hV3 (k4.fr gs (by omega) rfl) (show k < 8 by omega) (d + 18)
    have hMu := l2.1
    have vu : zai υ (m + 1) (259 + 32 * k + 12) = iI (1 - cL (aC A) k 12) := by rw [l4, zai_sa, if_pos ⟨rfl, rfl⟩]
    rw [show (12 : Int32) = nI 12 from rfl, show (1 : Int32) = nI 1 from rfl]
    simp only [zlt_e, onR_s, nul_s, nul_n, chk_e, bnI_s, bnR_s, bnV_s, zi_si, zi_sr, zi_sl, zi_sa, zi_sq, zr_si, zr_sr, zr_sl, zr_sa, zr_sq, zl_si, zl_sr, zl_sl, zl_sa, zl_sq, zai_si, zai_sr, zai_sl, zai_sa, zai_sq, zar_si, zar_sr, zar_sl, zar_sa, zar_sq, zkd_si, zkd_sr, zkd_sl, zkd_sa, zkd_sq, zln_si, zln_sr, zln_sl, zln_sa, zln_sq, znx_si, znx_sr, znx_sl, znx_sa, znx_sq, k1, hM2.k, hM2.s.1, hM2.s.2.1, hM2.s.2.2, if_true, s_mat, nI_add, n_zin (show 259 + 32 * k + 12 < 2 ^ 31 by omega), n_tn (show 259 + 32 * k + 12 < 2 ^ 31 by omega), show 259 + 32 * k + 12 < 515 by omega, and_self, v12, e1, l1, hMu.k, hMu.s.1, hMu.s.2.1, hMu.s.2.2, vu]
    exact ⟨υ, rfl, l2, l3⟩
  · rw [if_pos hx, if_neg hx, if_neg hx]
    exact ⟨_, rfl, hI1, g0⟩
