/-! cachedTiles, oldestTile -/
def rCt (A : zW) (x : Int32) : Int32 := if zin x (cN (aC A)) then nI (cnF (aU A) (64 * x.toNatClampNeg) 64) else -1001
theorem c_cachedTiles {σ : zS} {o B : Nat} {A : zW} {q u P : Nat → Nat} (hG : GA A B) (hB : B < 2 ^ 30) (hI : CIx σ o A q u P) (x : Int32) (d : Nat) : zOC o (zEv (d + 20) mX10_cachedTiles [.inr (.inl (some o)), .inl x] σ) (rCt A x) A σ := by
  have hR := hI.1
  have hO := hR.1
  have hn8 := hG.1.2.2.1
  rw [vX10_cachedTiles]
  unfold fX10_cachedTiles rCt
  simp only [zlt_e, onR_s, nul_s, nul_n, chk_e, bnI_s, bnR_s, bnV_s, zi_si, zi_sr, zi_sl, zi_sa, zi_sq, zr_si, zr_sr, zr_sl, zr_sa, zr_sq, zl_si, zl_sr, zl_sl, zl_sa, zl_sq, zai_si, zai_sr, zai_sl, zai_sa, zai_sq, zar_si, zar_sr, zar_sl, zar_sa, zar_sq, zkd_si, zkd_sr, zkd_sl, zkd_sa, zkd_sq, zln_si, zln_sr, zln_sl, zln_sa, zln_sq, znx_si, znx_sr, znx_sl, znx_sa, znx_sq, hO.f.1, hO.f.2.1, hO.c.1, if_true]
  by_cases hx : zin x (cN (aC A))
  · obtain ⟨ex, hk⟩ := zin_n hx
    generalize x.toNatClampNeg = k at *
    subst ex
    simp only [zlt_e, onR_s, nul_s, nul_n, chk_e, bnI_s, bnR_s, bnV_s, zi_si, zi_sr, zi_sl, zi_sa, zi_sq, zr_si, zr_sr, zr_sl, zr_sa, zr_sq, zl_si, zl_sr, zl_sl, zl_sa, zl_sq, zai_si, zai_sr, zai_sl, zai_sa, zai_sq, zar_si, zar_sr, zar_sl, zar_sa, zar_sq, zkd_si, zkd_sr, zkd_sl, zkd_sa, zkd_sq, zln_si, zln_sr, zln_sl, zln_sa, zln_sq, znx_si, znx_sr, znx_sl, znx_sa, znx_sq, s_layerAt hO.c hR.2.1 hR.2.2.1.2.1 hn8 hk, hO.f.1, hO.f.2.2.2.2.2.2.1, hO.tc.1, if_true, s_tilesOf hO.tc hR.2.2.2.2.1 (hG.u31 hB) (show k < 8 by omega)]
    rw [if_pos hx]
    exact ⟨σ, q, u, P, rfl, hI, zFr.rf σ⟩
  · rw [if_neg hx]
    simp only [zlt_e, onR_s, nul_s, nul_n, chk_e, bnI_s, bnR_s, bnV_s, zi_si, zi_sr, zi_sl, zi_sa, zi_sq, zr_si, zr_sr, zr_sl, zr_sa, zr_sq, zl_si, zl_sr, zl_sl, zl_sa, zl_sq, zai_si, zai_sr, zai_sl, zai_sa, zai_sq, zar_si, zar_sr, zar_sl, zar_sa, zar_sq, zkd_si, zkd_sr, zkd_sl, zkd_sa, zkd_sq, zln_si, zln_sr, zln_sl, zln_sa, zln_sq, znx_si, znx_sr, znx_sl, znx_sa, znx_sq, s_layerNo hO.c hR.2.2.1.2.1 hn8 hx]
    exact ⟨σ, q, u, P, rfl, hI, zFr.rf σ⟩
theorem m_cachedTiles {σ : zS} {m B : Nat} {A : zW} (hG : GA A B) (hB : B < 2 ^ 30) (hI : MIx σ m A) (x : Int32) (d : Nat) : zOM m (zEv (d + 20) mX11_cachedTiles [.inr (.inl (some m)), .inl x] σ) (rCt A x) A σ := by
  have hI1 := hI.th
  have hn8 := hG.1.2.2.1
  have g0 : zFr (fun a => m ≤ a ∧ a < m + 22) σ (zsi σ 576 m 0) := zFr.si σ (by omega)
  rw [vX11_cachedTiles]
  unfold fX11_cachedTiles rCt
  simp only [zlt_e, chk_e, bnI_s, hI.1.k, if_true, zkd_si, s_misLayer hI1.1 hI1.2.1 hn8, zb_0]
  by_cases hx : zin x (cN (aC A))
  · obtain ⟨ex, hk⟩ := zin_n hx
    generalize x.toNatClampNeg = l at *
    subst ex
    rw [if_neg (fun q => q hx), if_pos hx]
    generalize hτ : zsi σ 576 m 0 = τ at *
    have hM := hI1.1
    have hU := hI1.2.2.2.1
    obtain ⟨t, h1, h2⟩ := loop_from (fun k (t : Int32) => LX11_cachedTiles_21 (zEv (d + 19)) m (nI l) t (nI k) τ) (fun k t => t = nI (cnF (aU A) (64 * l) k)) 0 64 (fun t => some (some (.inl t), τ)) 0 (by decide) rfl
      (fun k t hk hI => by
        have hI : t = _ := hI
        have hle : (nI (aU A (64 * l + k)) ≤ nI 0) ↔ aU A (64 * l + k) ≤ 0 := n_le (hG.u31 hB _ (by omega)) (by decide)
        have e64 : nI 64 * nI l = nI (64 * l) := pk_mul 64 l
        refine ⟨nI (cnF (aU A) (64 * l) (k + 1)), ?_, rfl⟩
        show LX11_cachedTiles_21 _ _ _ _ _ _ = LX11_cachedTiles_21 _ _ _ _ _ _
        rw [uX11_cachedTiles_21, hI]
        simp only [zlt_e, onR_s, nul_s, nul_n, chk_e, bnI_s, bnR_s, bnV_s, zi_si, zi_sr, zi_sl, zi_sa, zi_sq, zr_si, zr_sr, zr_sl, zr_sa, zr_sq, zl_si, zl_sr, zl_sl, zl_sa, zl_sq, zai_si, zai_sr, zai_sl, zai_sa, zai_sq, zar_si, zar_sr, zar_sl, zar_sa, zar_sq, zkd_si, zkd_sr, zkd_sl, zkd_sa, zkd_sq, zln_si, zln_sr, zln_sl, zln_sa, zln_sq, znx_si, znx_sr, znx_sl, znx_sa, znx_sq, nL 0, nL 64, n_lt (show k < 2 ^ 31 by omega) (show 64 < 2 ^ 31 by decide), hk, if_true, hM.k, hM.u.1, hM.u.2.1, hM.u.2.2, e64, nI_add, n_zin (show 64 * l + k < 2 ^ 31 by omega), n_tn (show 64 * l + k < 2 ^ 31 by omega), show 64 * l + k < 512 by omega, and_self, hU _ (show 64 * l + k < 512 by omega), hle, nI_1]
        have e : cnF (aU A) (64 * l) (k + 1) = cnF (aU A) (64 * l) k + if aU A (64 * l + k) = 0 then 0 else 1 := rfl
        by_cases h0 : aU A (64 * l + k) = 0
        · rw [if_pos (by omega), e, if_pos h0]
        · rw [if_neg (by omega), e, if_neg h0])
      (fun t hI => by
        rw [uX11_cachedTiles_21, if_neg (by decide)])
    have h2 : t = _ := h2
    rw [h2] at h1
    exact ⟨τ, h1, hI1, g0⟩
  · rw [if_pos hx, if_neg hx]
    exact ⟨_, rfl, hI1, g0⟩
theorem n_div {a b : Nat} (ha : a < 2 ^ 31) (hb : 0 < b) (hb2 : b < 2 ^ 31) : nI a / nI b = nI (a / b) := by
  rw [i_nI a, i_nI b, i_div (by omega) (by omega) (by omega) (by omega), Int.tdiv_eq_ediv_of_nonneg (by omega), i_nI]
  rfl
def rOld (A : zW) : Int32 := match oldU (aU A) 512 with
  | none => -1009
  | some j => nI (1000 * (j / 64) + 10 * (j % 8) + j % 64 / 8)
theorem old_num {j : Nat} (hj : j < 512) : nI j / 64 = nI (j / 64) ∧ nI j - nI j / 8 * 8 = nI (j % 8) ∧ (nI j - nI j / 64 * 64) / 8 = nI (j % 64 / 8) := by
  have e64 : nI j / nI 64 = nI (j / 64) := n_div (by omega) (by decide) (by decide)
  have e8 : nI j / nI 8 = nI (j / 8) := n_div (by omega) (by decide) (by decide)
  rw [nL 64, nL 8, e64, e8, pk_mul, pk_mul, nI_sub (by omega), nI_sub (by omega), show j - j / 8 * 8 = j % 8 by omega, show j - j / 64 * 64 = j % 64 by omega, n_div (by omega) (by decide) (by decide)]
  exact ⟨rfl, rfl, rfl⟩
theorem m_oldestTile {σ : zS} {m B : Nat} {A : zW} (hG : GA A B) (hB : B < 2 ^ 30) (hI : MIx σ m A) (d : Nat) : zOM m (zEv (d + 20) mX11_oldestTile [.inr (.inl (some m))] σ) (rOld A) A σ := by
  have hI1 := hI.th
  have g0 : zFr (fun a => m ≤ a ∧ a < m + 22) σ (zsi σ 576 m 0) := zFr.si σ (by omega)
  have hck : tCk (aT A) ≤ B := hG.2.2.2.2.2.2.2.2
  rw [vX11_oldestTile]
  unfold fX11_oldestTile rOld
  simp only [zlt_e, chk_e, bnI_s, hI.1.k, if_true, zkd_si, s_moldest hI1.1 hI1.2.2.2.1 (fun k hk => Nat.le_trans (hG.2.2.2.2.2.2.1 k hk) hck) hB]
  cases ho : oldU (aU A) 512 with
  | none =>
    rw [if_pos (show iI (oMInt none) = (-1009 : Int32) from rfl)]
    exact ⟨_, rfl, hI1, g0⟩
  | some j =>
    have hj := (oldU_lt _ _ _ ho).1
    have ej : iI (oMInt (some j)) = nI j := (i_nI j).symm
    have en : ¬ (nI j = (-1009 : Int32)) := by
      rw [i_nI, show (-1009 : Int32) = iI (-1009) from rfl, i_eq (by omega) (by omega) (by decide) (by decide)]
      omega
    obtain ⟨n1, n2, n3⟩ := old_num hj
    rw [ej, if_neg en, if_neg (by decide), if_neg (by decide), if_neg (by decide), if_neg (by decide), n3, n2, n1, nL 1000, nL 10, pk_mul, pk_mul, nI_add, nI_add]
    exact ⟨_, rfl, hI1, g0⟩
theorem c_oldestTile {σ : zS} {o B : Nat} {A : zW} {q u P : Nat → Nat} (hG : GA A B) (hB : B < 2 ^ 30) (hI : CIx σ o A q u P) (d : Nat) : zOC o (zEv (d + 20) mX10_oldestTile [.inr (.inl (some o))] σ) (rOld A) A σ := by
  have hR := hI.1
  have hO := hR.1
  have hck : tCk (aT A) ≤ B := hG.2.2.2.2.2.2.2.2
  rw [vX10_oldestTile]
  unfold fX10_oldestTile rOld
  simp only [zlt_e, onR_s, nul_s, nul_n, chk_e, bnI_s, bnR_s, bnV_s, zi_si, zi_sr, zi_sl, zi_sa, zi_sq, zr_si, zr_sr, zr_sl, zr_sa, zr_sq, zl_si, zl_sr, zl_sl, zl_sa, zl_sq, zai_si, zai_sr, zai_sl, zai_sa, zai_sq, zar_si, zar_sr, zar_sl, zar_sa, zar_sq, zkd_si, zkd_sr, zkd_sl, zkd_sa, zkd_sq, zln_si, zln_sr, zln_sl, zln_sa, zln_sq, znx_si, znx_sr, znx_sl, znx_sa, znx_sq, hO.f.1, hO.f.2.2.2.2.2.2.1, hO.tc.1, if_true, s_oldestSlot hO.tc hR.2.2.2.2.1 hR.2.2.2.2.2.1 hG.2.2.2.2.2.2.1 (Nat.lt_of_le_of_lt hck hB)]
  cases ho : oldU (aU A) 512 with
  | none =>
    rw [if_pos (show iI (oInt none) < (0 : Int32) by decide)]
    exact ⟨σ, q, u, P, rfl, hI, zFr.rf σ⟩
  | some j =>
    have hj := (oldU_lt _ _ _ ho).1
    have ej : iI (oInt (some j)) = nI j := (i_nI j).symm
    have en : ¬ (nI j < (0 : Int32)) := by
      have : (nI j < (0 : Int32)) ↔ j < 0 := n_lt (by omega) (by decide)
      rw [this]; omega
    obtain ⟨n1, n2, n3⟩ := old_num hj
    have f1 : zEv (d + 19) mX9_layerOf [.inl (nI j)] σ = some (some (.inl (nI (j / 64))), σ) := by
      rw [vX9_layerOf]; unfold fX9_layerOf
      rw [if_neg (by decide), n1]
    have f2 : zEv (d + 19) mX9_columnOf [.inl (nI j)] σ = some (some (.inl (nI (j % 8))), σ) := by
      rw [vX9_columnOf]; unfold fX9_columnOf
      rw [if_neg (by decide), n2]
    have f3 : zEv (d + 19) mX9_rowOf [.inl (nI j)] σ = some (some (.inl (nI (j % 64 / 8))), σ) := by
      rw [vX9_rowOf]; unfold fX9_rowOf
      rw [if_neg (by decide), if_neg (by decide), n3]
    rw [ej, if_neg en, f1, bnI_s, f2, bnI_s, f3, bnI_s, nL 1000, nL 10, pk_mul, pk_mul, nI_add, nI_add]
    exact ⟨σ, q, u, P, rfl, hI, zFr.rf σ⟩
