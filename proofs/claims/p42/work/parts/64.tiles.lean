/-! cachedTiles, oldestTile -/
def rCt (A : zW) (x : Int32) : Int32 := if zin x (cN (aC A)) then nI (cnF (aU A) (64 * x.toNatClampNeg) 64) else -1001
theorem c_cachedTiles {σ : zS} {o B : Nat} {A : zW} {q u P : Nat → Nat} (hG : GA A B) (hB : B < 2 ^ 30) (hI : CIx σ o A q u P) (x : Int32) (d : Nat) : zOC o (zEv (d + 20) mX10_cachedTiles [.inr (.inl (some o)), .inl x] σ) (rCt A x) A σ := by
  have hR := hI.1
  have hO := hR.1
  have hn8 := hG.1.2.2.1
  rw [vX10_cachedTiles]
  unfold fX10_cachedTiles rCt
  simp only [zlt_e, onR_s, nul_s, nul_n, chk_e, bnI_s, bnR_s, bnV_s, zi_si, zi_sr, zi_sl, zi_sa, zi_sq, zr_si, zr_sr, zr_sl, zr_sa, zr_sq, zl_si, zl_sr, zl_sl, zl_sa, zl_sq, zai_si, zai_sr, zai_sl, zai_sa, zai_sq, zar_si, zar_sr, zar_sl, zar_sa, zar_sq, zkd_si, zkd_sr, zkd_sl, zkd_sa, zkd_sq, zln_si, zln_sr, zln_sl, zln_sa, zln_sq, znx_si, znx_sr, znx_sl, znx_sa, znx_sq, hO.f.1, hO.f.2.1, hO.c.1, if_true]
  by_cases hx : zin x (cN (aC A))
  · obtain ⟨ex, hk⟩ := zin_n hx
    generalize x.toNatClampNeg = k at *
    subst ex
    simp only [zlt_e, onR_s, nul_s, nul_n, chk_e, bnI_s, bnR_s, bnV_s, zi_si, zi_sr, zi_sl, zi_sa, zi_sq, zr_si, zr_sr, zr_sl, zr_sa, zr_sq, zl_si, zl_sr, zl_sl, zl_sa, zl_sq, zai_si, zai_sr, zai_sl, zai_sa, zai_sq, zar_si, zar_sr, zar_sl, zar_sa, zar_sq, zkd_si, zkd_sr, zkd_sl, zkd_sa, zkd_sq, zln_si, zln_sr, zln_sl, zln_sa, zln_sq, znx_si, znx_sr, znx_sl, znx_sa, znx_sq, s_layerAt hO.c hR.2.1 hR.2.2.1.2.1 hn8 hk, hO.f.1, hO.f.2.2.2.2.2.2.1, hO.tc.1, if_true, s_tilesOf hO.tc hR.2.2.2.2.1 (hG.u31 hB) (show k < 8 by omega)]
    rw [if_pos hx]
    exact ⟨σ, q, u, P, rfl, hI, zFr.rf σ⟩
  · rw [if_neg hx]
    simp only [zlt_e, onR_s, nul_s, nul_n, chk_e, bnI_s, bnR_s, bnV_s, zi_si, zi_sr, zi_sl, zi_sa, zi_sq, zr_si, zr_sr, zr_sl, zr_sa, zr_sq, zl_si, zl_sr, zl_sl, zl_sa, zl_sq, zai_si, zai_sr, zai_sl, zai_sa, zai_sq, zar_si, zar_sr, zar_sl, zar_sa, zar_sq, zkd_si, zkd_sr, zkd_sl, zkd_sa, zkd_sq, zln_si, zln_sr, zln_sl, zln_sa, zln_sq, znx_si, znx_sr, znx_sl, znx_sa, znx_sq, s_layerNo hO.c hR.2.2.1.2.1 hn8 hx]
    exact ⟨σ, q, u, P, rfl, hI, zFr.rf σ⟩
theorem n_div {a b : Nat} (ha : a < 2 ^ 31) (hb : 0 < b) (hb2 : b < 2 ^ 31) : nI a / nI b = nI (a / b) := by
  rw [i_nI a, i_nI b, i_div (by omega) (by omega) (by omega) (by omega), Int.tdiv_eq_ediv_of_nonneg (by omega), i_nI]
  rfl
def rOld (A : zW) : Int32 := match oldU (aU A) 512 with
  | none => -1009
  | some j => nI (1000 * (j / 64) + 10 * (j % 8) + j % 64 / 8)
theorem old_num {j : Nat} (hj : j < 512) : nI j / 64 = nI (j / 64) ∧ nI j - nI j / 8 * 8 = nI (j % 8) ∧ (nI j - nI j / 64 * 64) / 8 = nI (j % 64 / 8) := by
  have e64 : nI j / nI 64 = nI (j / 64) := n_div (by omega) (by decide) (by decide)
  have e8 : nI j / nI 8 = nI (j / 8) := n_div (by omega) (by decide) (by decide)
  rw [nL 64, nL 8, e64, e8, pk_mul, pk_mul, nI_sub (by omega), nI_sub (by omega), show j - j / 8 * 8 = j % 8 by omega, show j - j / 64 * 64 = j % 64 by omega, n_div (by omega) (by decide) (by decide)]
  exact ⟨rfl, rfl, rfl⟩
