/-! the class's calls that change one layer -/
def rFeather (A : zW) (x p : Int32) : Int32 := if zin x (cN (aC A)) ∧ 0 ≤ p.toInt ∧ p.toInt ≤ 5 then iI (cL (aC A) x.toNatClampNeg 11) else -1001
def tFeather (A : zW) (x p : Int32) : zW := if zin x (cN (aC A)) ∧ 0 ≤ p.toInt ∧ p.toInt ≤ 5 then aRow A x.toNatClampNeg (upR (cL (aC A) x.toNatClampNeg) 11 p.toInt) else A
theorem c_setFeather {σ : zS} {o B : Nat} {A : zW} {q u P : Nat → Nat} (hG : GA A B) (hB : B < 2 ^ 30) (hI : CIx σ o A q u P) (x p : Int32) (d : Nat) : zOC o (zEv (d + 20) mX10_setFeather [.inr (.inl (some o)), .inl x, .inl p] σ) (rFeather A x p) (tFeather A x p) σ := by
  have hR := hI.1
  have hO := hR.1
  have hn8 := hG.1.2.2.1
  have w2 : ((0 : Int32) ≤ p ∧ p ≤ 5) ↔ 0 ≤ p.toInt ∧ p.toInt ≤ 5 := w_in (a := 0) (b := 5) (by decide) (by decide) (by decide) (by decide)
  rw [vX10_setFeather]
  unfold fX10_setFeather rFeather tFeather
  simp only [zlt_e, onR_s, nul_s, nul_n, chk_e, bnI_s, bnR_s, bnV_s, zi_si, zi_sr, zi_sl, zi_sa, zi_sq, zr_si, zr_sr, zr_sl, zr_sa, zr_sq, zl_si, zl_sr, zl_sl, zl_sa, zl_sq, zai_si, zai_sr, zai_sl, zai_sa, zai_sq, zar_si, zar_sr, zar_sl, zar_sa, zar_sq, zkd_si, zkd_sr, zkd_sl, zkd_sa, zkd_sq, zln_si, zln_sr, zln_sl, zln_sa, zln_sq, znx_si, znx_sr, znx_sl, znx_sa, znx_sq, hO.f.1, hO.f.2.1, hO.c.1, if_true]
  by_cases hx : zin x (cN (aC A))
  · obtain ⟨ex, hk⟩ := zin_n hx
    generalize x.toNatClampNeg = k at *
    subst ex
    have hqk := (hR.2.1.1 k (by omega)).2
    have hls := hO.c.2.2.2.2.2.2 (q k) hqk
    have a5 : zi σ 197 (o + 1 + 4 + 3 * q k + 1) = iI (cL (aC A) k 11) := (hR.2.2.1.2.2 k hk).2.1 5 (by decide)
    simp only [zlt_e, onR_s, nul_s, nul_n, chk_e, bnI_s, bnR_s, bnV_s, zi_si, zi_sr, zi_sl, zi_sa, zi_sq, zr_si, zr_sr, zr_sl, zr_sa, zr_sq, zl_si, zl_sr, zl_sl, zl_sa, zl_sq, zai_si, zai_sr, zai_sl, zai_sa, zai_sq, zar_si, zar_sr, zar_sl, zar_sa, zar_sq, zkd_si, zkd_sr, zkd_sl, zkd_sa, zkd_sq, zln_si, zln_sr, zln_sl, zln_sa, zln_sq, znx_si, znx_sr, znx_sl, znx_sa, znx_sq, s_layerAt hO.c hR.2.1 hR.2.2.1.2.1 hn8 hk, s_within, w2, zb_0, hls.1, hls.2.1, hls.2.2.1, if_true, a5, hO.f.1]
    by_cases hp : 0 ≤ p.toInt ∧ p.toInt ≤ 5
    · rw [if_neg (by simpa using hp), if_pos ⟨hx, hp⟩, if_pos ⟨hx, hp⟩]
      obtain ⟨τ, u', k1, k2, k3⟩ := s_startChange hG hB hI (show k ≤ 8 by omega) (d + 12)
      have hls' := k3.1.1.c.2.2.2.2.2.2 (q k) hqk
      have hlv := k3.1.2.2.1.2.2 k hk
      have ep : p = iI p.toInt := i_of p
      simp only [zlt_e, onR_s, nul_s, nul_n, chk_e, bnI_s, bnR_s, bnV_s, zi_si, zi_sr, zi_sl, zi_sa, zi_sq, zr_si, zr_sr, zr_sl, zr_sa, zr_sq, zl_si, zl_sr, zl_sl, zl_sa, zl_sq, zai_si, zai_sr, zai_sl, zai_sa, zai_sq, zar_si, zar_sr, zar_sl, zar_sa, zar_sq, zkd_si, zkd_sr, zkd_sl, zkd_sa, zkd_sq, zln_si, zln_sr, zln_sl, zln_sa, zln_sq, znx_si, znx_sr, znx_sl, znx_sa, znx_sq, k1, hls'.1, hls'.2.1, hls'.2.2.1, if_true]
      have g1 : zFr (inL (o + 1 + 4 + 3 * q k)) τ (zsi τ (192 + 5) (o + 1 + 4 + 3 * q k + 1) (iI p.toInt)) := zFr.si _ (by unfold inL; omega)
      refine ⟨_, q, u', P, rfl, ?_, ?_⟩
      · rw [ep]
        have e2 : (iI p.toInt).toInt = p.toInt := by rw [← ep]
        rw [e2]
        exact k3.row hG hk g1 (hlv.sm (j := 5) (by decide) _)
      · rw [ep]
        refine (k2.mono (fun a ha => by unfold inHU inH inU at ha; omega)).tr (g1.mono (fun a ha => by unfold inL at ha; omega))
    · rw [if_pos hp, if_neg (fun q => hp q.2), if_neg (fun q => hp q.2)]
      exact ⟨σ, q, u, P, rfl, hI, zFr.rf σ⟩
  · rw [if_neg (fun q => hx q.1), if_neg (fun q => hx q.1)]
    simp only [zlt_e, onR_s, nul_s, nul_n, chk_e, bnI_s, bnR_s, bnV_s, zi_si, zi_sr, zi_sl, zi_sa, zi_sq, zr_si, zr_sr, zr_sl, zr_sa, zr_sq, zl_si, zl_sr, zl_sl, zl_sa, zl_sq, zai_si, zai_sr, zai_sl, zai_sa, zai_sq, zar_si, zar_sr, zar_sl, zar_sa, zar_sq, zkd_si, zkd_sr, zkd_sl, zkd_sa, zkd_sq, zln_si, zln_sr, zln_sl, zln_sa, zln_sq, znx_si, znx_sr, znx_sl, znx_sa, znx_sq, s_layerNo hO.c hR.2.2.1.2.1 hn8 hx]
    exact ⟨σ, q, u, P, rfl, hI, zFr.rf σ⟩
def rInvert (A : zW) (x : Int32) : Int32 := if zin x (cN (aC A)) then iI (1 - cL (aC A) x.toNatClampNeg 12) else -1001
def tInvert (A : zW) (x : Int32) : zW := if zin x (cN (aC A)) then aRow A x.toNatClampNeg (upR (cL (aC A) x.toNatClampNeg) 12 (1 - cL (aC A) x.toNatClampNeg 12)) else A
theorem c_invertMask {σ : zS} {o B : Nat} {A : zW} {q u P : Nat → Nat} (hG : GA A B) (hB : B < 2 ^ 30) (hI : CIx σ o A q u P) (x : Int32) (d : Nat) : zOC o (zEv (d + 20) mX10_invertMask [.inr (.inl (some o)), .inl x] σ) (rInvert A x) (tInvert A x) σ := by
  have hR := hI.1
  have hO := hR.1
  have hn8 := hG.1.2.2.1
  rw [vX10_invertMask]
  unfold fX10_invertMask rInvert tInvert
  simp only [zlt_e, onR_s, nul_s, nul_n, chk_e, bnI_s, bnR_s, bnV_s, zi_si, zi_sr, zi_sl, zi_sa, zi_sq, zr_si, zr_sr, zr_sl, zr_sa, zr_sq, zl_si, zl_sr, zl_sl, zl_sa, zl_sq, zai_si, zai_sr, zai_sl, zai_sa, zai_sq, zar_si, zar_sr, zar_sl, zar_sa, zar_sq, zkd_si, zkd_sr, zkd_sl, zkd_sa, zkd_sq, zln_si, zln_sr, zln_sl, zln_sa, zln_sq, znx_si, znx_sr, znx_sl, znx_sa, znx_sq, hO.f.1, hO.f.2.1, hO.c.1, if_true]
  by_cases hx : zin x (cN (aC A))
  · obtain ⟨ex, hk⟩ := zin_n hx
    generalize x.toNatClampNeg = k at *
    subst ex
    have hqk := (hR.2.1.1 k (by omega)).2
    have hg := hG.1.2.2.2.2 k hk
    simp only [zlt_e, onR_s, nul_s, nul_n, chk_e, bnI_s, bnR_s, bnV_s, zi_si, zi_sr, zi_sl, zi_sa, zi_sq, zr_si, zr_sr, zr_sl, zr_sa, zr_sq, zl_si, zl_sr, zl_sl, zl_sa, zl_sq, zai_si, zai_sr, zai_sl, zai_sa, zai_sq, zar_si, zar_sr, zar_sl, zar_sa, zar_sq, zkd_si, zkd_sr, zkd_sl, zkd_sa, zkd_sq, zln_si, zln_sr, zln_sl, zln_sa, zln_sq, znx_si, znx_sr, znx_sl, znx_sa, znx_sq, s_layerAt hO.c hR.2.1 hR.2.2.1.2.1 hn8 hk, hO.f.1, if_true]
    rw [if_pos hx, if_pos hx]
    obtain ⟨τ, u', k1, k2, k3⟩ := s_startChange hG hB hI (show k ≤ 8 by omega) (d + 12)
    have hls' := k3.1.1.c.2.2.2.2.2.2 (q k) hqk
    have hlv := k3.1.2.2.1.2.2 k hk
    have a6 : zi τ 198 (o + 1 + 4 + 3 * q k + 1) = iI (cL (aC A) k 12) := hlv.2.1 6 (by decide)
    have g1 : ∀ v, zFr (inL (o + 1 + 4 + 3 * q k)) τ (zsi τ (192 + 6) (o + 1 + 4 + 3 * q k + 1) (iI v)) := fun v => zFr.si _ (by unfold inL; omega)
    have hF : ∀ v, zFr (fun a => o ≤ a ∧ a < o + 257) σ (zsi τ (192 + 6) (o + 1 + 4 + 3 * q k + 1) (iI v)) := fun v => (k2.mono (fun a ha => by unfold inHU inH inU at ha; omega)).tr ((g1 v).mono (fun a ha => by unfold inL at ha; omega))
    simp only [zlt_e, onR_s, nul_s, nul_n, chk_e, bnI_s, bnR_s, bnV_s, zi_si, zi_sr, zi_sl, zi_sa, zi_sq, zr_si, zr_sr, zr_sl, zr_sa, zr_sq, zl_si, zl_sr, zl_sl, zl_sa, zl_sq, zai_si, zai_sr, zai_sl, zai_sa, zai_sq, zar_si, zar_sr, zar_sl, zar_sa, zar_sq, zkd_si, zkd_sr, zkd_sl, zkd_sa, zkd_sq, zln_si, zln_sr, zln_sl, zln_sa, zln_sq, znx_si, znx_sr, znx_sl, znx_sa, znx_sq, k1, hls'.1, hls'.2.1, hls'.2.2.1, if_true, a6, true_and, and_self]
    rcases hg.2.2.2.2.2.2.2.2.1 with h0 | h1
    · rw [h0, if_pos (by decide), if_pos (Or.inr rfl), if_neg (by decide)]
      exact ⟨zsi τ (192 + 6) (o + 1 + 4 + 3 * q k + 1) (iI 1), q, u', P, rfl, k3.row hG hk (g1 1) (hlv.sm (j := 6) (by decide) 1), hF 1⟩
    · rw [h1, if_neg (by decide), if_pos (Or.inl rfl)]
      exact ⟨zsi τ (192 + 6) (o + 1 + 4 + 3 * q k + 1) (iI 0), q, u', P, rfl, k3.row hG hk (g1 0) (hlv.sm (j := 6) (by decide) 0), hF 0⟩
  · rw [if_neg hx, if_neg hx]
    simp only [zlt_e, onR_s, nul_s, nul_n, chk_e, bnI_s, bnR_s, bnV_s, zi_si, zi_sr, zi_sl, zi_sa, zi_sq, zr_si, zr_sr, zr_sl, zr_sa, zr_sq, zl_si, zl_sr, zl_sl, zl_sa, zl_sq, zai_si, zai_sr, zai_sl, zai_sa, zai_sq, zar_si, zar_sr, zar_sl, zar_sa, zar_sq, zkd_si, zkd_sr, zkd_sl, zkd_sa, zkd_sq, zln_si, zln_sr, zln_sl, zln_sa, zln_sq, znx_si, znx_sr, znx_sl, znx_sa, znx_sq, s_layerNo hO.c hR.2.2.1.2.1 hn8 hx]
    exact ⟨σ, q, u, P, rfl, hI, zFr.rf σ⟩
