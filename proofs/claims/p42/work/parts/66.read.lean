/-! calls that only ask: size, layer, isCached -/
def tlN (w sd : Nat) : Nat := (w - 1) / sd + 1
theorem ix_r {k j : Nat} (hk : k < 8) (hj : j < 32) : (zin (nI (259 + 32 * k) + nI j) 515 = True) ∧ (nI (259 + 32 * k) + nI j).toNatClampNeg = 259 + 32 * k + j := by
  rw [nI_add]
  exact ⟨eq_true ((n_zin (by omega)).mpr (by omega)), n_tn (by omega)⟩
theorem tlN_eq {w sd : Nat} (hw : 1 ≤ w) (hs : 1 ≤ sd) (hw2 : w < 1000) (hs2 : sd < 1000) : ((nI w + nI sd - 1) / nI sd) = nI (tlN w sd) := by
  obtain ⟨k, rfl⟩ : ∃ k, w = k + 1 := ⟨w - 1, by omega⟩
  have e : nI (k + 1) + nI sd = nI (k + sd + 1) := by rw [nI_add]; congr 1; omega
  rw [e, nI_m, n_div (by omega) (by omega) (by omega), Nat.add_div_right _ (by omega)]
  rfl
theorem s_tileColumns {σ : zS} {o B : Nat} {A : zW} {q u P : Nat → Nat} (hG : GA A B) (hI : CIx σ o A q u P) (d : Nat) : zEv (d + 4) mX10_tileColumns [.inr (.inl (some o))] σ = some (some (.inl (nI (tlN (cW (aC A)) (tSd (aT A))))), σ) := by
  have hR := hI.1
  have hO := hR.1
  have hw := hG.1.1
  have hs := hG.2.2.2.2.1
  have ew : nI (cW (aC A)) - 1 = nI (cW (aC A) - 1) := by
    obtain ⟨k, hk⟩ : ∃ k, cW (aC A) = k + 1 := ⟨cW (aC A) - 1, by omega⟩
    rw [hk, nI_m]; rfl
  have e1 := s_tileOf (x := cW (aC A) - 1) hO.tc hR.2.2.2.2.2.1 (by show 1 ≤ tSd (aT A); omega) (by show tSd (aT A) < 1000; omega) (by omega) d
  rw [vX10_tileColumns]
  unfold fX10_tileColumns
  simp only [zlt_e, onR_s, nul_s, nul_n, chk_e, bnI_s, bnR_s, bnV_s, zi_si, zi_sr, zi_sl, zi_sa, zi_sq, zr_si, zr_sr, zr_sl, zr_sa, zr_sq, zl_si, zl_sr, zl_sl, zl_sa, zl_sq, zai_si, zai_sr, zai_sl, zai_sa, zai_sq, zar_si, zar_sr, zar_sl, zar_sa, zar_sq, zkd_si, zkd_sr, zkd_sl, zkd_sa, zkd_sq, zln_si, zln_sr, zln_sl, zln_sa, zln_sq, znx_si, znx_sr, znx_sl, znx_sa, znx_sq, hO.f.1, hO.f.2.1, hO.f.2.2.2.2.2.2.1, hO.c.1, hO.c.2.1, hO.c.2.2.2.1.1, hO.tc.1, if_true, hR.2.2.1.1.1, ew, e1, nI_1]
  rfl
theorem s_tileRows {σ : zS} {o B : Nat} {A : zW} {q u P : Nat → Nat} (hG : GA A B) (hI : CIx σ o A q u P) (d : Nat) : zEv (d + 4) mX10_tileRows [.inr (.inl (some o))] σ = some (some (.inl (nI (tlN (cH (aC A)) (tSd (aT A))))), σ) := by
  have hR := hI.1
  have hO := hR.1
  have hw := hG.1.2.1
  have hs := hG.2.2.2.2.1
  have ew : nI (cH (aC A)) - 1 = nI (cH (aC A) - 1) := by
    obtain ⟨k, hk⟩ : ∃ k, cH (aC A) = k + 1 := ⟨cH (aC A) - 1, by omega⟩
    rw [hk, nI_m]; rfl
  have e1 := s_tileOf (x := cH (aC A) - 1) hO.tc hR.2.2.2.2.2.1 (by show 1 ≤ tSd (aT A); omega) (by show tSd (aT A) < 1000; omega) (by omega) d
  rw [vX10_tileRows]
  unfold fX10_tileRows
  simp only [zlt_e, onR_s, nul_s, nul_n, chk_e, bnI_s, bnR_s, bnV_s, zi_si, zi_sr, zi_sl, zi_sa, zi_sq, zr_si, zr_sr, zr_sl, zr_sa, zr_sq, zl_si, zl_sr, zl_sl, zl_sa, zl_sq, zai_si, zai_sr, zai_sl, zai_sa, zai_sq, zar_si, zar_sr, zar_sl, zar_sa, zar_sq, zkd_si, zkd_sr, zkd_sl, zkd_sa, zkd_sq, zln_si, zln_sr, zln_sl, zln_sa, zln_sq, znx_si, znx_sr, znx_sl, znx_sa, znx_sq, hO.f.1, hO.f.2.1, hO.f.2.2.2.2.2.2.1, hO.c.1, hO.c.2.1, hO.c.2.2.2.1.1, hO.tc.1, if_true, hR.2.2.1.1.2.1, ew, e1, nI_1]
  rfl
def rSize (A : zW) (x : Int32) : Int32 := if x = 0 then nI (cW (aC A)) else if x = 1 then nI (cH (aC A)) else if x = 2 then nI (cN (aC A)) else if x = 3 then nI (tSd (aT A)) else if x = 4 then nI (tlN (cW (aC A)) (tSd (aT A))) * nI (tlN (cH (aC A)) (tSd (aT A))) else if x = 5 then nI (tLm (aT A)) else -1001
theorem c_size {σ : zS} {o B : Nat} {A : zW} {q u P : Nat → Nat} (hG : GA A B) (hI : CIx σ o A q u P) (x : Int32) (d : Nat) : zOC o (zEv (d + 20) mX10_size [.inr (.inl (some o)), .inl x] σ) (rSize A x) A σ := by
  have hR := hI.1
  have hO := hR.1
  obtain ⟨t1, t2, t3, t4, t5, t6⟩ := hR.2.2.2.2.2.1
  rw [vX10_size]
  unfold fX10_size rSize
  simp only [zlt_e, onR_s, nul_s, nul_n, chk_e, bnI_s, bnR_s, bnV_s, zi_si, zi_sr, zi_sl, zi_sa, zi_sq, zr_si, zr_sr, zr_sl, zr_sa, zr_sq, zl_si, zl_sr, zl_sl, zl_sa, zl_sq, zai_si, zai_sr, zai_sl, zai_sa, zai_sq, zar_si, zar_sr, zar_sl, zar_sa, zar_sq, zkd_si, zkd_sr, zkd_sl, zkd_sa, zkd_sq, zln_si, zln_sr, zln_sl, zln_sa, zln_sq, znx_si, znx_sr, znx_sl, znx_sa, znx_sq, hO.f.1, hO.f.2.1, hO.f.2.2.2.2.2.2.1, hO.c.1, hO.c.2.1, hO.c.2.2.2.1.1, hO.tc.1, if_true, hR.2.2.1.1.1, hR.2.2.1.1.2.1, s_layerCount hO.c, hR.2.2.1.2.1, t1, t2, s_tileColumns hG hI (d + 15), s_tileRows hG hI (d + 15)]
  have key : ∀ r, zOC o (some (some (.inl r), σ)) r A σ := fun r => zOC.same hI r
  by_cases h0 : x = 0
  · rw [if_pos h0, if_pos h0]; exact key _
  rw [if_neg h0, if_neg h0]
  by_cases h1 : x = 1
  · rw [if_pos h1, if_pos h1]; exact key _
  rw [if_neg h1, if_neg h1]
  by_cases h2 : x = 2
  · rw [if_pos h2, if_pos h2]; exact key _
  rw [if_neg h2, if_neg h2]
  by_cases h3 : x = 3
  · rw [if_pos h3, if_pos h3]; exact key _
  rw [if_neg h3, if_neg h3]
  by_cases h4 : x = 4
  · rw [if_pos h4, if_pos h4]; exact key _
  rw [if_neg h4, if_neg h4]
  by_cases h5 : x = 5
  · rw [if_pos h5, if_pos h5]; exact key _
  rw [if_neg h5, if_neg h5]; exact key _
def rLyr (A : zW) (x w : Int32) : Int32 := if zin x (cN (aC A)) then (if w = 0 then iI (cL (aC A) x.toNatClampNeg 0) else if w = 1 then iI (cL (aC A) x.toNatClampNeg 1) + 1000 else if w = 2 then iI (cL (aC A) x.toNatClampNeg 2) + 1000 else if w = 3 then iI (cL (aC A) x.toNatClampNeg 3) else if w = 4 then iI (cL (aC A) x.toNatClampNeg 4) else if w = 5 then iI (cL (aC A) x.toNatClampNeg 5) else if w = 6 then iI (rchI (cL (aC A) x.toNatClampNeg 0) (cL (aC A) x.toNatClampNeg 1) (cL (aC A) x.toNatClampNeg 2)) else if w = 7 then iI (cL (aC A) x.toNatClampNeg 6) else if w = 8 then iI (cL (aC A) x.toNatClampNeg 13) else -1001) else -1001
theorem c_layer {σ : zS} {o B : Nat} {A : zW} {q u P : Nat → Nat} (hG : GA A B) (hI : CIx σ o A q u P) (x w : Int32) (d : Nat) : zOC o (zEv (d + 20) mX10_layer [.inr (.inl (some o)), .inl x, .inl w] σ) (rLyr A x w) A σ := by
  have hR := hI.1
  have hO := hR.1
  have hn8 := hG.1.2.2.1
  have key : ∀ r, zOC o (some (some (.inl r), σ)) r A σ := fun r => zOC.same hI r
  rw [vX10_layer]
  unfold fX10_layer rLyr
  simp only [zlt_e, onR_s, nul_s, nul_n, chk_e, bnI_s, bnR_s, bnV_s, zi_si, zi_sr, zi_sl, zi_sa, zi_sq, zr_si, zr_sr, zr_sl, zr_sa, zr_sq, zl_si, zl_sr, zl_sl, zl_sa, zl_sq, zai_si, zai_sr, zai_sl, zai_sa, zai_sq, zar_si, zar_sr, zar_sl, zar_sa, zar_sq, zkd_si, zkd_sr, zkd_sl, zkd_sa, zkd_sq, zln_si, zln_sr, zln_sl, zln_sa, zln_sq, znx_si, znx_sr, znx_sl, znx_sa, znx_sq, hO.f.1, hO.f.2.1, hO.c.1, if_true]
  by_cases hx : zin x (cN (aC A))
  · obtain ⟨ex, hk⟩ := zin_n hx
    generalize x.toNatClampNeg = k at *
    subst ex
    have hqk := (hR.2.1.1 k (by omega)).2
    have hls := hO.c.2.2.2.2.2.2 (q k) hqk
    have hlv := hR.2.2.1.2.2 k hk
    have hg := hG.1.2.2.2.2 k hk
    have a0 : zi σ 128 (o + 1 + 4 + 3 * q k) = iI (cL (aC A) k 0) := hlv.1 0 (by decide)
    have a1 : zi σ 129 (o + 1 + 4 + 3 * q k) = iI (cL (aC A) k 1) := hlv.1 1 (by decide)
    have a2 : zi σ 130 (o + 1 + 4 + 3 * q k) = iI (cL (aC A) k 2) := hlv.1 2 (by decide)
    have a3 : zi σ 131 (o + 1 + 4 + 3 * q k) = iI (cL (aC A) k 3) := hlv.1 3 (by decide)
    have a4 : zi σ 132 (o + 1 + 4 + 3 * q k) = iI (cL (aC A) k 4) := hlv.1 4 (by decide)
    have a5 : zi σ 133 (o + 1 + 4 + 3 * q k) = iI (cL (aC A) k 5) := hlv.1 5 (by decide)
    have a6 : zi σ 192 (o + 1 + 4 + 3 * q k + 1) = iI (cL (aC A) k 6) := hlv.2.1 0 (by decide)
    have a7 : zi σ 199 (o + 1 + 4 + 3 * q k + 1) = iI (cL (aC A) k 13) := hlv.2.1 7 (by decide)
    have e5 : (if iI (cL (aC A) k 5) = 0 then (some (some (.inl 0), σ) : zO) else some (some (.inl 1), σ)) = some (some (.inl (iI (cL (aC A) k 5))), σ) := by
      rcases hg.2.2.2.2.1 with e | e <;> rw [e] <;> rfl
    simp only [zlt_e, onR_s, nul_s, nul_n, chk_e, bnI_s, bnR_s, bnV_s, zi_si, zi_sr, zi_sl, zi_sa, zi_sq, zr_si, zr_sr, zr_sl, zr_sa, zr_sq, zl_si, zl_sr, zl_sl, zl_sa, zl_sq, zai_si, zai_sr, zai_sl, zai_sa, zai_sq, zar_si, zar_sr, zar_sl, zar_sa, zar_sq, zkd_si, zkd_sr, zkd_sl, zkd_sa, zkd_sq, zln_si, zln_sr, zln_sl, zln_sa, zln_sq, znx_si, znx_sr, znx_sl, znx_sa, znx_sq, s_layerAt hO.c hR.2.1 hR.2.2.1.2.1 hn8 hk, hls.1, hls.2.1, hls.2.2.1, if_true, a0, a1, a2, a3, a4, a5, a6, a7, e5, s_reach hls hlv hg]
    rw [if_pos hx]
    by_cases h0 : w = 0
    · rw [if_pos h0, if_pos h0]; exact key _
    rw [if_neg h0, if_neg h0]
    by_cases h1 : w = 1
    · rw [if_pos h1, if_pos h1]; exact key _
    rw [if_neg h1, if_neg h1]
    by_cases h2 : w = 2
    · rw [if_pos h2, if_pos h2]; exact key _
    rw [if_neg h2, if_neg h2]
    by_cases h3 : w = 3
    · rw [if_pos h3, if_pos h3]; exact key _
    rw [if_neg h3, if_neg h3]
    by_cases h4 : w = 4
    · rw [if_pos h4, if_pos h4]; exact key _
    rw [if_neg h4, if_neg h4]
    by_cases h5 : w = 5
    · rw [if_pos h5, if_pos h5]; exact key _
    rw [if_neg h5, if_neg h5]
    by_cases h6 : w = 6
    · rw [if_pos h6, if_pos h6]; exact key _
    rw [if_neg h6, if_neg h6]
    by_cases h7 : w = 7
    · rw [if_pos h7, if_pos h7]; exact key _
    rw [if_neg h7, if_neg h7]
    by_cases h8 : w = 8
    · rw [if_pos h8, if_pos h8]; exact key _
    rw [if_neg h8, if_neg h8]; exact key _
  · rw [if_neg hx]
    simp only [zlt_e, onR_s, nul_s, nul_n, chk_e, bnI_s, bnR_s, bnV_s, zi_si, zi_sr, zi_sl, zi_sa, zi_sq, zr_si, zr_sr, zr_sl, zr_sa, zr_sq, zl_si, zl_sr, zl_sl, zl_sa, zl_sq, zai_si, zai_sr, zai_sl, zai_sa, zai_sq, zar_si, zar_sr, zar_sl, zar_sa, zar_sq, zkd_si, zkd_sr, zkd_sl, zkd_sa, zkd_sq, zln_si, zln_sr, zln_sl, zln_sa, zln_sq, znx_si, znx_sr, znx_sl, znx_sa, znx_sq, s_layerNo hO.c hR.2.2.1.2.1 hn8 hx]
    exact key _
def rIsC (A : zW) (x c r : Int32) : Int32 := if zin x (cN (aC A)) ∧ zin c (tlN (cW (aC A)) (tSd (aT A))) ∧ zin r (tlN (cH (aC A)) (tSd (aT A))) then (if aU A (sN x.toNatClampNeg c.toNatClampNeg r.toNatClampNeg) = 0 then 0 else 1) else -1001
theorem w_n {x : Int32} {n : Nat} (h0 : 1 ≤ n) (hn : n < 1000) : ((0 : Int32) ≤ x ∧ x ≤ nI n - 1) ↔ zin x n := p_in hn h0
theorem tlN_8 {w sd : Nat} (hw : w ≤ 16) (hs : 2 ≤ sd) : 1 ≤ tlN w sd ∧ tlN w sd ≤ 8 := by
  unfold tlN
  have : (w - 1) / sd ≤ 15 / 2 := Nat.le_trans (Nat.div_le_div_right (by omega)) (Nat.div_le_div_left hs (by decide))
  generalize (w - 1) / sd = z at *
  omega
