/-! calls that only ask: size, layer, isCached -/
def tlN (w sd : Nat) : Nat := (w - 1) / sd + 1
theorem ix_r {k j : Nat} (hk : k < 8) (hj : j < 32) : (zin (nI (259 + 32 * k) + nI j) 515 = True) ∧ (nI (259 + 32 * k) + nI j).toNatClampNeg = 259 + 32 * k + j := by
  rw [nI_add]
  exact ⟨eq_true ((n_zin (by omega)).mpr (by omega)), n_tn (by omega)⟩
theorem tlN_eq {w sd : Nat} (hw : 1 ≤ w) (hs : 1 ≤ sd) (hw2 : w < 1000) (hs2 : sd < 1000) : ((nI w + nI sd - 1) / nI sd) = nI (tlN w sd) := by
  obtain ⟨k, rfl⟩ : ∃ k, w = k + 1 := ⟨w - 1, by omega⟩
  have e : nI (k + 1) + nI sd = nI (k + sd + 1) := by rw [nI_add]; congr 1; omega
  rw [e, nI_m, n_div (by omega) (by omega) (by omega), Nat.add_div_right _ (by omega)]
  rfl
theorem s_tileColumns {σ : zS} {o B : Nat} {A : zW} {q u P : Nat → Nat} (hG : GA A B) (hI : CIx σ o A q u P) (d : Nat) : zEv (d + 4) mX10_tileColumns [.inr (.inl (some o))] σ = some (some (.inl (nI (tlN (cW (aC A)) (tSd (aT A))))), σ) := by
  have hR := hI.1
  have hO := hR.1
  have hw := hG.1.1
  have hs := hG.2.2.2.2.1
  have ew : nI (cW (aC A)) - 1 = nI (cW (aC A) - 1) := by
    obtain ⟨k, hk⟩ : ∃ k, cW (aC A) = k + 1 := ⟨cW (aC A) - 1, by omega⟩
    rw [hk, nI_m]; rfl
  have e1 := s_tileOf (x := cW (aC A) - 1) hO.tc hR.2.2.2.2.2.1 (by show 1 ≤ tSd (aT A); omega) (by show tSd (aT A) < 1000; omega) (by omega) d
  rw [vX10_tileColumns]
  unfold fX10_tileColumns
  simp only [zlt_e, onR_s, nul_s, nul_n, chk_e, bnI_s, bnR_s, bnV_s, zi_si, zi_sr, zi_sl, zi_sa, zi_sq, zr_si, zr_sr, zr_sl, zr_sa, zr_sq, zl_si, zl_sr, zl_sl, zl_sa, zl_sq, zai_si, zai_sr, zai_sl, zai_sa, zai_sq, zar_si, zar_sr, zar_sl, zar_sa, zar_sq, zkd_si, zkd_sr, zkd_sl, zkd_sa, zkd_sq, zln_si, zln_sr, zln_sl, zln_sa, zln_sq, znx_si, znx_sr, znx_sl, znx_sa, znx_sq, hO.f.1, hO.f.2.1, hO.f.2.2.2.2.2.2.1, hO.c.1, hO.c.2.1, hO.c.2.2.2.1.1, hO.tc.1, if_true, hR.2.2.1.1.1, ew, e1, nI_1]
  rfl
theorem s_tileRows {σ : zS} {o B : Nat} {A : zW} {q u P : Nat → Nat} (hG : GA A B) (hI : CIx σ o A q u P) (d : Nat) : zEv (d + 4) mX10_tileRows [.inr (.inl (some o))] σ = some (some (.inl (nI (tlN (cH (aC A)) (tSd (aT A))))), σ) := by
  have hR := hI.1
  have hO := hR.1
  have hw := hG.1.2.1
  have hs := hG.2.2.2.2.1
  have ew : nI (cH (aC A)) - 1 = nI (cH (aC A) - 1) := by
    obtain ⟨k, hk⟩ : ∃ k, cH (aC A) = k + 1 := ⟨cH (aC A) - 1, by omega⟩
    rw [hk, nI_m]; rfl
  have e1 := s_tileOf (x := cH (aC A) - 1) hO.tc hR.2.2.2.2.2.1 (by show 1 ≤ tSd (aT A); omega) (by show tSd (aT A) < 1000; omega) (by omega) d
  rw [vX10_tileRows]
  unfold fX10_tileRows
  simp only [zlt_e, onR_s, nul_s, nul_n, chk_e, bnI_s, bnR_s, bnV_s, zi_si, zi_sr, zi_sl, zi_sa, zi_sq, zr_si, zr_sr, zr_sl, zr_sa, zr_sq, zl_si, zl_sr, zl_sl, zl_sa, zl_sq, zai_si, zai_sr, zai_sl, zai_sa, zai_sq, zar_si, zar_sr, zar_sl, zar_sa, zar_sq, zkd_si, zkd_sr, zkd_sl, zkd_sa, zkd_sq, zln_si, zln_sr, zln_sl, zln_sa, zln_sq, znx_si, znx_sr, znx_sl, znx_sa, znx_sq, hO.f.1, hO.f.2.1, hO.f.2.2.2.2.2.2.1, hO.c.1, hO.c.2.1, hO.c.2.2.2.1.1, hO.tc.1, if_true, hR.2.2.1.1.2.1, ew, e1, nI_1]
  rfl
theorem s_mcolumns {σ : zS} {m B : Nat} {A : zW} (hG : GA A B) (hI : MIx σ m A) (d : Nat) : zEv (d + 1) mX11_columns [.inr (.inl (some m))] σ = some (some (.inl (nI (tlN (cW (aC A)) (tSd (aT A))))), σ) := by
  have hM := hI.1
  have hw := hG.1.1
  have hs := hG.2.2.2.2.1
  have t0 : (0 : Int32).toNatClampNeg = 0 := rfl
  have z0 : zin 0 515 = True := eq_true (by decide)
  have v0 : zai σ (m + 1) 0 = nI (cW (aC A)) := hI.2.1.1
  have vs : zi σ 584 m = nI (tSd (aT A)) := hI.2.2.2.2.2.2.1.1
  have hne : ¬ (nI (tSd (aT A)) = 0) := by
    have : (nI (tSd (aT A)) = (0 : Int32)) ↔ tSd (aT A) = 0 := n_eq (by omega) (by decide)
    rw [this]; omega
  rw [vX11_columns]
  unfold fX11_columns
  simp only [zlt_e, onR_s, nul_s, nul_n, chk_e, bnI_s, bnR_s, bnV_s, zi_si, zi_sr, zi_sl, zi_sa, zi_sq, zr_si, zr_sr, zr_sl, zr_sa, zr_sq, zl_si, zl_sr, zl_sl, zl_sa, zl_sq, zai_si, zai_sr, zai_sl, zai_sa, zai_sq, zar_si, zar_sr, zar_sl, zar_sa, zar_sq, zkd_si, zkd_sr, zkd_sl, zkd_sa, zkd_sq, zln_si, zln_sr, zln_sl, zln_sa, zln_sq, znx_si, znx_sr, znx_sl, znx_sa, znx_sq, hM.k, hM.s.1, hM.s.2.1, hM.s.2.2, z0, t0, and_self, if_true, v0, vs, hne, if_false]
  rw [tlN_eq (by omega) (by omega) (by omega) (by omega)]
theorem s_mrows {σ : zS} {m B : Nat} {A : zW} (hG : GA A B) (hI : MIx σ m A) (d : Nat) : zEv (d + 1) mX11_rows [.inr (.inl (some m))] σ = some (some (.inl (nI (tlN (cH (aC A)) (tSd (aT A))))), σ) := by
  have hM := hI.1
  have hw := hG.1.2.1
  have hs := hG.2.2.2.2.1
  have t0 : (1 : Int32).toNatClampNeg = 1 := rfl
  have z0 : zin 1 515 = True := eq_true (by decide)
  have v0 : zai σ (m + 1) 1 = nI (cH (aC A)) := hI.2.1.2.1
  have vs : zi σ 584 m = nI (tSd (aT A)) := hI.2.2.2.2.2.2.1.1
  have hne : ¬ (nI (tSd (aT A)) = 0) := by
    have : (nI (tSd (aT A)) = (0 : Int32)) ↔ tSd (aT A) = 0 := n_eq (by omega) (by decide)
    rw [this]; omega
  rw [vX11_rows]
  unfold fX11_rows
  simp only [zlt_e, onR_s, nul_s, nul_n, chk_e, bnI_s, bnR_s, bnV_s, zi_si, zi_sr, zi_sl, zi_sa, zi_sq, zr_si, zr_sr, zr_sl, zr_sa, zr_sq, zl_si, zl_sr, zl_sl, zl_sa, zl_sq, zai_si, zai_sr, zai_sl, zai_sa, zai_sq, zar_si, zar_sr, zar_sl, zar_sa, zar_sq, zkd_si, zkd_sr, zkd_sl, zkd_sa, zkd_sq, zln_si, zln_sr, zln_sl, zln_sa, zln_sq, znx_si, znx_sr, znx_sl, znx_sa, znx_sq, hM.k, hM.s.1, hM.s.2.1, hM.s.2.2, z0, t0, and_self, if_true, v0, vs, hne, if_false]
  rw [tlN_eq (by omega) (by omega) (by omega) (by omega)]
def rSize (A : zW) (x : Int32) : Int32 := if x = 0 then nI (cW (aC A)) else if x = 1 then nI (cH (aC A)) else if x = 2 then nI (cN (aC A)) else if x = 3 then nI (tSd (aT A)) else if x = 4 then nI (tlN (cW (aC A)) (tSd (aT A))) * nI (tlN (cH (aC A)) (tSd (aT A))) else if x = 5 then nI (tLm (aT A)) else -1001
theorem c_size {σ : zS} {o B : Nat} {A : zW} {q u P : Nat → Nat} (hG : GA A B) (hI : CIx σ o A q u P) (x : Int32) (d : Nat) : zOC o (zEv (d + 20) mX10_size [.inr (.inl (some o)), .inl x] σ) (rSize A x) A σ := by
  have hR := hI.1
  have hO := hR.1
  obtain ⟨t1, t2, t3, t4, t5, t6⟩ := hR.2.2.2.2.2.1
  rw [vX10_size]
  unfold fX10_size rSize
  simp only [zlt_e, onR_s, nul_s, nul_n, chk_e, bnI_s, bnR_s, bnV_s, zi_si, zi_sr, zi_sl, zi_sa, zi_sq, zr_si, zr_sr, zr_sl, zr_sa, zr_sq, zl_si, zl_sr, zl_sl, zl_sa, zl_sq, zai_si, zai_sr, zai_sl, zai_sa, zai_sq, zar_si, zar_sr, zar_sl, zar_sa, zar_sq, zkd_si, zkd_sr, zkd_sl, zkd_sa, zkd_sq, zln_si, zln_sr, zln_sl, zln_sa, zln_sq, znx_si, znx_sr, znx_sl, znx_sa, znx_sq, hO.f.1, hO.f.2.1, hO.f.2.2.2.2.2.2.1, hO.c.1, hO.c.2.1, hO.c.2.2.2.1.1, hO.tc.1, if_true, hR.2.2.1.1.1, hR.2.2.1.1.2.1, s_layerCount hO.c, hR.2.2.1.2.1, t1, t2, s_tileColumns hG hI (d + 15), s_tileRows hG hI (d + 15)]
  have key : ∀ r, zOC o (some (some (.inl r), σ)) r A σ := fun r => zOC.same hI r
  by_cases h0 : x = 0
  · rw [if_pos h0, if_pos h0]; exact key _
  rw [if_neg h0, if_neg h0]
  by_cases h1 : x = 1
  · rw [if_pos h1, if_pos h1]; exact key _
  rw [if_neg h1, if_neg h1]
  by_cases h2 : x = 2
  · rw [if_pos h2, if_pos h2]; exact key _
  rw [if_neg h2, if_neg h2]
  by_cases h3 : x = 3
  · rw [if_pos h3, if_pos h3]; exact key _
  rw [if_neg h3, if_neg h3]
  by_cases h4 : x = 4
  · rw [if_pos h4, if_pos h4]; exact key _
  rw [if_neg h4, if_neg h4]
  by_cases h5 : x = 5
  · rw [if_pos h5, if_pos h5]; exact key _
  rw [if_neg h5, if_neg h5]; exact key _
theorem m_size {σ : zS} {m B : Nat} {A : zW} (hG : GA A B) (hI : MIx σ m A) (x : Int32) (d : Nat) : zOM m (zEv (d + 20) mX11_size [.inr (.inl (some m)), .inl x] σ) (rSize A x) A σ := by
  have hI1 := hI.th
  have hM := hI1.1
  have t0 : (0 : Int32).toNatClampNeg = 0 := rfl
  have t1 : (1 : Int32).toNatClampNeg = 1 := rfl
  have t2 : (258 : Int32).toNatClampNeg = 258 := rfl
  have z0 : zin 0 515 = True := eq_true (by decide)
  have z1 : zin 1 515 = True := eq_true (by decide)
  have z2 : zin 258 515 = True := eq_true (by decide)
  have v0 : zai (zsi σ 576 m 0) (m + 1) 0 = nI (cW (aC A)) := hI1.2.1.1
  have v1 : zai (zsi σ 576 m 0) (m + 1) 1 = nI (cH (aC A)) := hI1.2.1.2.1
  have v2 : zai (zsi σ 576 m 0) (m + 1) 258 = nI (cN (aC A)) := hI1.2.1.2.2.2.1
  have vs : zi (zsi σ 576 m 0) 584 m = nI (tSd (aT A)) := hI1.2.2.2.2.2.2.1.1
  have vl : zi (zsi σ 576 m 0) 585 m = nI (tLm (aT A)) := hI1.2.2.2.2.2.2.1.2.1
  have ec := s_mcolumns hG hI1 (d + 18)
  have er := s_mrows hG hI1 (d + 18)
  have key : ∀ r, zOM m (some (some (.inl r), zsi σ 576 m 0)) r A σ := fun r => zOM.same hI r
  rw [vX11_size]
  unfold fX11_size rSize
  simp only [zlt_e, chk_e, hI.1.k, if_true]
  generalize zsi σ 576 m 0 = τ at *
  simp only [zlt_e, chk_e, onR_s, bnI_s, hM.k, hM.s.1, hM.s.2.1, hM.s.2.2, z0, t0, z1, t1, z2, t2, and_self, if_true, v0, v1, v2, vs, vl, ec, er]
  by_cases h0 : x = 0
  · rw [if_pos h0, if_pos h0]; exact key _
  rw [if_neg h0, if_neg h0]
  by_cases h1 : x = 1
  · rw [if_pos h1, if_pos h1]; exact key _
  rw [if_neg h1, if_neg h1]
  by_cases h2 : x = 2
  · rw [if_pos h2, if_pos h2]; exact key _
  rw [if_neg h2, if_neg h2]
  by_cases h3 : x = 3
  · rw [if_pos h3, if_pos h3]; exact key _
  rw [if_neg h3, if_neg h3]
  by_cases h4 : x = 4
  · rw [if_pos h4, if_pos h4]; exact key _
  rw [if_neg h4, if_neg h4]
  by_cases h5 : x = 5
  · rw [if_pos h5, if_pos h5]; exact key _
  rw [if_neg h5, if_neg h5]; exact key _
theorem s_mreach {σ : zS} {m i : Nat} {C : zC} (hM : MS σ m) (hV : MV σ (m + 1) 0 C) (hg : GL (cL C i)) (hi : i < cN C) (hn8 : cN C ≤ 8) (d : Nat) : zEv (d + 2) mX11_reach [.inr (.inl (some m)), .inl (nI i)] σ = some (some (.inl (iI (rchI (cL C i 0) (cL C i 1) (cL C i 2)))), σ) := by
  have x0 := ix_r (k := i) (j := 0) (by omega) (by decide)
  have x1 := ix_r (k := i) (j := 1) (by omega) (by decide)
  have x2 := ix_r (k := i) (j := 2) (by omega) (by decide)
  have v0 := hV.r hi (show 0 < 32 by decide)
  have v1 := hV.r hi (show 1 < 32 by decide)
  have v2 := hV.r hi (show 2 < 32 by decide)
  have h0 := hg.1
  have h1 := hg.2.1
  have q1 : (iI (cL C i 0) = nI 11) ↔ cL C i 0 = 11 := i_eq (b := 11) (by omega) (by omega) (by omega) (by omega)
  have q2 : (iI (cL C i 0) = nI 13) ↔ cL C i 0 = 13 := i_eq (b := 13) (by omega) (by omega) (by omega) (by omega)
  have q3 : (nI 6 ≤ iI (cL C i 0) ∧ iI (cL C i 0) ≤ nI 10) ↔ 6 ≤ cL C i 0 ∧ cL C i 0 ≤ 10 := by
    have a1 : (iI 6 ≤ iI (cL C i 0)) ↔ 6 ≤ cL C i 0 := i_le (by omega) (by omega) (by omega) (by omega)
    have a2 : (iI (cL C i 0) ≤ iI 10) ↔ cL C i 0 ≤ 10 := i_le (by omega) (by omega) (by omega) (by omega)
    show (iI 6 ≤ iI (cL C i 0) ∧ iI (cL C i 0) ≤ iI 10) ↔ _
    rw [a1, a2]
  rw [vX11_reach]
  unfold fX11_reach
  rw [show (0 : Int32) = nI 0 from rfl, show (1 : Int32) = nI 1 from rfl, show (2 : Int32) = nI 2 from rfl, show (6 : Int32) = nI 6 from rfl, show (10 : Int32) = nI 10 from rfl, show (11 : Int32) = nI 11 from rfl, show (13 : Int32) = nI 13 from rfl]
  simp only [zlt_e, onR_s, nul_s, nul_n, chk_e, bnI_s, bnR_s, bnV_s, zi_si, zi_sr, zi_sl, zi_sa, zi_sq, zr_si, zr_sr, zr_sl, zr_sa, zr_sq, zl_si, zl_sr, zl_sl, zl_sa, zl_sq, zai_si, zai_sr, zai_sl, zai_sa, zai_sq, zar_si, zar_sr, zar_sl, zar_sa, zar_sq, zkd_si, zkd_sr, zkd_sl, zkd_sa, zkd_sq, zln_si, zln_sr, zln_sl, zln_sa, zln_sq, znx_si, znx_sr, znx_sl, znx_sa, znx_sq, hM.k, s_mat, hM.s.1, hM.s.2.1, hM.s.2.2, x0, x1, x2, and_self, if_true, v0, v1, v2, q1, q2, s_in, q3]
  rw [show nI 0 = (0 : Int32) from rfl]
  simp only [zb_0]
  unfold rchI
  by_cases h11 : cL C i 0 = 11
  · rw [if_pos h11, if_neg (by omega), if_pos h11]
    unfold okP loA hiA loB hiB at h1
    rw [h11] at h1
    simp at h1
    have b1 := s_mabs (a := cL C i 1) d σ (by omega) (by omega)
    have b2 := s_mabs (a := cL C i 2) d σ (by omega) (by omega)
    simp only [b1, b2, bnI_s]
    have hle : (iI (if cL C i 1 < 0 then -cL C i 1 else cL C i 1) ≤ iI (if cL C i 2 < 0 then -cL C i 2 else cL C i 2)) ↔ (if cL C i 1 < 0 then -cL C i 1 else cL C i 1) ≤ (if cL C i 2 < 0 then -cL C i 2 else cL C i 2) := i_le (by split <;> omega) (by split <;> omega) (by split <;> omega) (by split <;> omega)
    simp only [hle]
    generalize (if cL C i 1 < 0 then -cL C i 1 else cL C i 1) = a
    generalize (if cL C i 2 < 0 then -cL C i 2 else cL C i 2) = b
    by_cases hab : a ≤ b
    · rw [if_pos hab, Int.max_eq_right hab]
    · rw [if_neg hab, Int.max_eq_left (by omega)]
  · rw [if_neg h11]
    by_cases h13 : cL C i 0 = 13
    · rw [if_pos h13, if_neg (by omega), if_neg h11, if_pos h13]; rfl
    · rw [if_neg h13]
      by_cases h6 : 6 ≤ cL C i 0 ∧ cL C i 0 ≤ 10
      · rw [if_neg (fun q => q h6), if_pos h6]
      · rw [if_pos h6, if_neg h6, if_neg h11, if_neg h13]; rfl
def rLyr (A : zW) (x w : Int32) : Int32 := if zin x (cN (aC A)) then (if w = 0 then iI (cL (aC A) x.toNatClampNeg 0) else if w = 1 then iI (cL (aC A) x.toNatClampNeg 1) + 1000 else if w = 2 then iI (cL (aC A) x.toNatClampNeg 2) + 1000 else if w = 3 then iI (cL (aC A) x.toNatClampNeg 3) else if w = 4 then iI (cL (aC A) x.toNatClampNeg 4) else if w = 5 then iI (cL (aC A) x.toNatClampNeg 5) else if w = 6 then iI (rchI (cL (aC A) x.toNatClampNeg 0) (cL (aC A) x.toNatClampNeg 1) (cL (aC A) x.toNatClampNeg 2)) else if w = 7 then iI (cL (aC A) x.toNatClampNeg 6) else if w = 8 then iI (cL (aC A) x.toNatClampNeg 13) else -1001) else -1001
theorem c_layer {σ : zS} {o B : Nat} {A : zW} {q u P : Nat → Nat} (hG : GA A B) (hI : CIx σ o A q u P) (x w : Int32) (d : Nat) : zOC o (zEv (d + 20) mX10_layer [.inr (.inl (some o)), .inl x, .inl w] σ) (rLyr A x w) A σ := by
  have hR := hI.1
  have hO := hR.1
  have hn8 := hG.1.2.2.1
  have key : ∀ r, zOC o (some (some (.inl r), σ)) r A σ := fun r => zOC.same hI r
  rw [vX10_layer]
  unfold fX10_layer rLyr
  simp only [zlt_e, onR_s, nul_s, nul_n, chk_e, bnI_s, bnR_s, bnV_s, zi_si, zi_sr, zi_sl, zi_sa, zi_sq, zr_si, zr_sr, zr_sl, zr_sa, zr_sq, zl_si, zl_sr, zl_sl, zl_sa, zl_sq, zai_si, zai_sr, zai_sl, zai_sa, zai_sq, zar_si, zar_sr, zar_sl, zar_sa, zar_sq, zkd_si, zkd_sr, zkd_sl, zkd_sa, zkd_sq, zln_si, zln_sr, zln_sl, zln_sa, zln_sq, znx_si, znx_sr, znx_sl, znx_sa, znx_sq, hO.f.1, hO.f.2.1, hO.c.1, if_true]
  by_cases hx : zin x (cN (aC A))
  · obtain ⟨ex, hk⟩ := zin_n hx
    generalize x.toNatClampNeg = k at *
    subst ex
    have hqk := (hR.2.1.1 k (by omega)).2
    have hls := hO.c.2.2.2.2.2.2 (q k) hqk
    have hlv := hR.2.2.1.2.2 k hk
    have hg := hG.1.2.2.2.2 k hk
    have a0 : zi σ 128 (o + 1 + 4 + 3 * q k) = iI (cL (aC A) k 0) := hlv.1 0 (by decide)
    have a1 : zi σ 129 (o + 1 + 4 + 3 * q k) = iI (cL (aC A) k 1) := hlv.1 1 (by decide)
    have a2 : zi σ 130 (o + 1 + 4 + 3 * q k) = iI (cL (aC A) k 2) := hlv.1 2 (by decide)
    have a3 : zi σ 131 (o + 1 + 4 + 3 * q k) = iI (cL (aC A) k 3) := hlv.1 3 (by decide)
    have a4 : zi σ 132 (o + 1 + 4 + 3 * q k) = iI (cL (aC A) k 4) := hlv.1 4 (by decide)
    have a5 : zi σ 133 (o + 1 + 4 + 3 * q k) = iI (cL (aC A) k 5) := hlv.1 5 (by decide)
    have a6 : zi σ 192 (o + 1 + 4 + 3 * q k + 1) = iI (cL (aC A) k 6) := hlv.2.1 0 (by decide)
    have a7 : zi σ 199 (o + 1 + 4 + 3 * q k + 1) = iI (cL (aC A) k 13) := hlv.2.1 7 (by decide)
    have e5 : (if iI (cL (aC A) k 5) = 0 then (some (some (.inl 0), σ) : zO) else some (some (.inl 1), σ)) = some (some (.inl (iI (cL (aC A) k 5))), σ) := by
      rcases hg.2.2.2.2.1 with e | e <;> rw [e] <;> rfl
    simp only [zlt_e, onR_s, nul_s, nul_n, chk_e, bnI_s, bnR_s, bnV_s, zi_si, zi_sr, zi_sl, zi_sa, zi_sq, zr_si, zr_sr, zr_sl, zr_sa, zr_sq, zl_si, zl_sr, zl_sl, zl_sa, zl_sq, zai_si, zai_sr, zai_sl, zai_sa, zai_sq, zar_si, zar_sr, zar_sl, zar_sa, zar_sq, zkd_si, zkd_sr, zkd_sl, zkd_sa, zkd_sq, zln_si, zln_sr, zln_sl, zln_sa, zln_sq, znx_si, znx_sr, znx_sl, znx_sa, znx_sq, s_layerAt hO.c hR.2.1 hR.2.2.1.2.1 hn8 hk, hls.1, hls.2.1, hls.2.2.1, if_true, a0, a1, a2, a3, a4, a5, a6, a7, e5, s_reach hls hlv hg]
    rw [if_pos hx]
    by_cases h0 : w = 0
    · rw [if_pos h0, if_pos h0]; exact key _
    rw [if_neg h0, if_neg h0]
    by_cases h1 : w = 1
    · rw [if_pos h1, if_pos h1]; exact key _
    rw [if_neg h1, if_neg h1]
    by_cases h2 : w = 2
    · rw [if_pos h2, if_pos h2]; exact key _
    rw [if_neg h2, if_neg h2]
    by_cases h3 : w = 3
    · rw [if_pos h3, if_pos h3]; exact key _
    rw [if_neg h3, if_neg h3]
    by_cases h4 : w = 4
    · rw [if_pos h4, if_pos h4]; exact key _
    rw [if_neg h4, if_neg h4]
    by_cases h5 : w = 5
    · rw [if_pos h5, if_pos h5]; exact key _
    rw [if_neg h5, if_neg h5]
    by_cases h6 : w = 6
    · rw [if_pos h6, if_pos h6]; exact key _
    rw [if_neg h6, if_neg h6]
    by_cases h7 : w = 7
    · rw [if_pos h7, if_pos h7]; exact key _
    rw [if_neg h7, if_neg h7]
    by_cases h8 : w = 8
    · rw [if_pos h8, if_pos h8]; exact key _
    rw [if_neg h8, if_neg h8]; exact key _
  · rw [if_neg hx]
    simp only [zlt_e, onR_s, nul_s, nul_n, chk_e, bnI_s, bnR_s, bnV_s, zi_si, zi_sr, zi_sl, zi_sa, zi_sq, zr_si, zr_sr, zr_sl, zr_sa, zr_sq, zl_si, zl_sr, zl_sl, zl_sa, zl_sq, zai_si, zai_sr, zai_sl, zai_sa, zai_sq, zar_si, zar_sr, zar_sl, zar_sa, zar_sq, zkd_si, zkd_sr, zkd_sl, zkd_sa, zkd_sq, zln_si, zln_sr, zln_sl, zln_sa, zln_sq, znx_si, znx_sr, znx_sl, znx_sa, znx_sq, s_layerNo hO.c hR.2.2.1.2.1 hn8 hx]
    exact key _
theorem m_layer {σ : zS} {m B : Nat} {A : zW} (hG : GA A B) (hI : MIx σ m A) (x w : Int32) (d : Nat) : zOM m (zEv (d + 20) mX11_layer [.inr (.inl (some m)), .inl x, .inl w] σ) (rLyr A x w) A σ := by
  have hI1 := hI.th
  have hM := hI1.1
  have hV := hI1.2.1
  have hn8 := hG.1.2.2.1
  have key : ∀ r, zOM m (some (some (.inl r), zsi σ 576 m 0)) r A σ := fun r => zOM.same hI r
  have w1 : ((0 : Int32) ≤ w ∧ w ≤ 8) ↔ 0 ≤ w.toInt ∧ w.toInt ≤ 8 := w_in (a := 0) (b := 8) (by decide) (by decide) (by decide) (by decide)
  rw [vX11_layer]
  unfold fX11_layer rLyr
  simp only [zlt_e, chk_e, hI.1.k, if_true]
  generalize zsi σ 576 m 0 = τ at *
  simp only [zlt_e, chk_e, bnI_s, hM.k, if_true, s_misLayer hM hV hn8, zb_0, s_in, w1]
  by_cases hx : zin x (cN (aC A))
  · obtain ⟨ex, hk⟩ := zin_n hx
    generalize x.toNatClampNeg = k at *
    subst ex
    rw [if_neg (fun q => q hx), if_pos hx]
    have x0 := ix_r (k := k) (j := 0) (by omega) (by decide)
    have v0 := hV.r hk (show 0 < 32 by decide)
    have x1 := ix_r (k := k) (j := 1) (by omega) (by decide)
    have v1 := hV.r hk (show 1 < 32 by decide)
    have x2 := ix_r (k := k) (j := 2) (by omega) (by decide)
    have v2 := hV.r hk (show 2 < 32 by decide)
    have x3 := ix_r (k := k) (j := 3) (by omega) (by decide)
    have v3 := hV.r hk (show 3 < 32 by decide)
    have x4 := ix_r (k := k) (j := 4) (by omega) (by decide)
    have v4 := hV.r hk (show 4 < 32 by decide)
    have x5 := ix_r (k := k) (j := 5) (by omega) (by decide)
    have v5 := hV.r hk (show 5 < 32 by decide)
    have x6 := ix_r (k := k) (j := 6) (by omega) (by decide)
    have v6 := hV.r hk (show 6 < 32 by decide)
    have x13 := ix_r (k := k) (j := 13) (by omega) (by decide)
    have v13 := hV.r hk (show 13 < 32 by decide)
    have er := s_mreach hM hV (hG.1.2.2.2.2 k hk) hk hn8 (d + 17)
    by_cases hw : 0 ≤ w.toInt ∧ w.toInt ≤ 8
    · rw [if_neg (fun q => q hw)]
      have ew := i_of w
      have big : w = nI 0 ∨ w = nI 1 ∨ w = nI 2 ∨ w = nI 3 ∨ w = nI 4 ∨ w = nI 5 ∨ w = nI 6 ∨ w = nI 7 ∨ w = nI 8 := by
        rcases (by omega : w.toInt = 0 ∨ w.toInt = 1 ∨ w.toInt = 2 ∨ w.toInt = 3 ∨ w.toInt = 4 ∨ w.toInt = 5 ∨ w.toInt = 6 ∨ w.toInt = 7 ∨ w.toInt = 8) with e | e | e | e | e | e | e | e | e <;> rw [e] at ew <;> rw [ew] <;> decide
      rw [show (1 : Int32) = nI 1 from rfl, show (2 : Int32) = nI 2 from rfl, show (3 : Int32) = nI 3 from rfl, show (4 : Int32) = nI 4 from rfl, show (5 : Int32) = nI 5 from rfl, show (6 : Int32) = nI 6 from rfl, show (7 : Int32) = nI 7 from rfl, show (8 : Int32) = nI 8 from rfl, show (13 : Int32) = nI 13 from rfl, show (0 : Int32) = nI 0 from rfl]
      have ne : ∀ a b : Nat, a < 100 → b < 100 → ((nI a = nI b) ↔ a = b) := fun a b ha hb => n_eq (by omega) (by omega)
      rcases big with e | e | e | e | e | e | e | e | e <;> subst e <;> simp only [ne, Nat.reduceLT, Nat.reduceEqDiff, s_mat, zlt_e, chk_e, onR_s, bnI_s, hM.k, hM.s.1, hM.s.2.1, hM.s.2.2, x0, x1, x2, x3, x4, x5, x6, x13, v0, v1, v2, v3, v4, v5, v6, v13, and_self, if_true, if_false, er] <;> exact key _
    · rw [if_pos hw, if_neg, if_neg, if_neg, if_neg, if_neg, if_neg, if_neg, if_neg, if_neg]
      · exact key _
      all_goals (rintro rfl; exact hw (by decide))
  · rw [if_pos hx, if_neg hx]
    exact key _
def rIsC (A : zW) (x c r : Int32) : Int32 := if zin x (cN (aC A)) ∧ zin c (tlN (cW (aC A)) (tSd (aT A))) ∧ zin r (tlN (cH (aC A)) (tSd (aT A))) then (if aU A (sN x.toNatClampNeg c.toNatClampNeg r.toNatClampNeg) = 0 then 0 else 1) else -1001
theorem w_n {x : Int32} {n : Nat} (h0 : 1 ≤ n) (hn : n < 1000) : ((0 : Int32) ≤ x ∧ x ≤ nI n - 1) ↔ zin x n := p_in hn h0
theorem tlN_8 {w sd : Nat} (hw : w ≤ 16) (hs : 2 ≤ sd) : 1 ≤ tlN w sd ∧ tlN w sd ≤ 8 := by
  unfold tlN
  have : (w - 1) / sd ≤ 15 / 2 := Nat.le_trans (Nat.div_le_div_right (by omega)) (Nat.div_le_div_left hs (by decide))
  generalize (w - 1) / sd = z at *
  omega
theorem c_isCached {σ : zS} {o B : Nat} {A : zW} {q u P : Nat → Nat} (hG : GA A B) (hB : B < 2 ^ 30) (hI : CIx σ o A q u P) (x c r : Int32) (d : Nat) : zOC o (zEv (d + 20) mX10_isCached [.inr (.inl (some o)), .inl x, .inl c, .inl r] σ) (rIsC A x c r) A σ := by
  have hR := hI.1
  have hO := hR.1
  have hn8 := hG.1.2.2.1
  have key : ∀ r, zOC o (some (some (.inl r), σ)) r A σ := fun r => zOC.same hI r
  have tc := tlN_8 hG.1.1.2 hG.2.2.2.2.1.1
  have tr := tlN_8 hG.1.2.1.2 hG.2.2.2.2.1.1
  rw [vX10_isCached]
  unfold fX10_isCached rIsC
  simp only [zlt_e, onR_s, nul_s, nul_n, chk_e, bnI_s, bnR_s, bnV_s, zi_si, zi_sr, zi_sl, zi_sa, zi_sq, zr_si, zr_sr, zr_sl, zr_sa, zr_sq, zl_si, zl_sr, zl_sl, zl_sa, zl_sq, zai_si, zai_sr, zai_sl, zai_sa, zai_sq, zar_si, zar_sr, zar_sl, zar_sa, zar_sq, zkd_si, zkd_sr, zkd_sl, zkd_sa, zkd_sq, zln_si, zln_sr, zln_sl, zln_sa, zln_sq, znx_si, znx_sr, znx_sl, znx_sa, znx_sq, hO.f.1, hO.f.2.1, hO.c.1, if_true]
  by_cases hx : zin x (cN (aC A))
  · obtain ⟨ex, hk⟩ := zin_n hx
    generalize x.toNatClampNeg = k at *
    subst ex
    simp only [zlt_e, onR_s, nul_s, nul_n, chk_e, bnI_s, bnR_s, bnV_s, zi_si, zi_sr, zi_sl, zi_sa, zi_sq, zr_si, zr_sr, zr_sl, zr_sa, zr_sq, zl_si, zl_sr, zl_sl, zl_sa, zl_sq, zai_si, zai_sr, zai_sl, zai_sa, zai_sq, zar_si, zar_sr, zar_sl, zar_sa, zar_sq, zkd_si, zkd_sr, zkd_sl, zkd_sa, zkd_sq, zln_si, zln_sr, zln_sl, zln_sa, zln_sq, znx_si, znx_sr, znx_sl, znx_sa, znx_sq, s_layerAt hO.c hR.2.1 hR.2.2.1.2.1 hn8 hk, hO.f.1, hO.f.2.2.2.2.2.2.1, hO.tc.1, if_true, s_tileColumns hG hI (d + 15), s_tileRows hG hI (d + 15), s_within, w_n (n := tlN (cW (aC A)) (tSd (aT A))) (by omega) (by omega), w_n (n := tlN (cH (aC A)) (tSd (aT A))) (by omega) (by omega), zb_0]
    by_cases hc : zin c (tlN (cW (aC A)) (tSd (aT A)))
    · rw [if_neg (fun q => q hc)]
      by_cases hr : zin r (tlN (cH (aC A)) (tSd (aT A)))
      · rw [if_neg (fun q => q hr), if_pos ⟨hx, hc, hr⟩]
        obtain ⟨ec, hc8⟩ := zin_n hc
        obtain ⟨er, hr8⟩ := zin_n hr
        generalize c.toNatClampNeg = c' at *
        generalize r.toNatClampNeg = r' at *
        subst ec
        subst er
        simp only [zlt_e, onR_s, nul_s, nul_n, chk_e, bnI_s, bnR_s, bnV_s, zi_si, zi_sr, zi_sl, zi_sa, zi_sq, zr_si, zr_sr, zr_sl, zr_sa, zr_sq, zl_si, zl_sr, zl_sl, zl_sa, zl_sq, zai_si, zai_sr, zai_sl, zai_sa, zai_sq, zar_si, zar_sr, zar_sl, zar_sa, zar_sq, zkd_si, zkd_sr, zkd_sl, zkd_sa, zkd_sq, zln_si, zln_sr, zln_sl, zln_sa, zln_sq, znx_si, znx_sr, znx_sl, znx_sa, znx_sq, s_holds hO.tc hR.2.2.2.2.1 (hG.u31 hB) (show k < 8 by omega) (show c' < 8 by omega) (show r' < 8 by omega), zb_0]
        by_cases hu : aU A (sN k c' r') = 0
        · rw [if_pos (fun q => q hu), if_pos hu]; exact key _
        · rw [if_neg (fun q => q hu), if_neg hu]; exact key _
      · rw [if_pos hr, if_neg (fun q => hr q.2.2)]; exact key _
    · rw [if_pos hc, if_neg (fun q => hc q.2.1)]; exact key _
  · rw [if_neg (fun q => hx q.1)]
    simp only [zlt_e, onR_s, nul_s, nul_n, chk_e, bnI_s, bnR_s, bnV_s, zi_si, zi_sr, zi_sl, zi_sa, zi_sq, zr_si, zr_sr, zr_sl, zr_sa, zr_sq, zl_si, zl_sr, zl_sl, zl_sa, zl_sq, zai_si, zai_sr, zai_sl, zai_sa, zai_sq, zar_si, zar_sr, zar_sl, zar_sa, zar_sq, zkd_si, zkd_sr, zkd_sl, zkd_sa, zkd_sq, zln_si, zln_sr, zln_sl, zln_sa, zln_sq, znx_si, znx_sr, znx_sl, znx_sa, znx_sq, s_layerNo hO.c hR.2.2.1.2.1 hn8 hx]
    exact key _
theorem m_isCached {σ : zS} {m B : Nat} {A : zW} (hG : GA A B) (hB : B < 2 ^ 30) (hI : MIx σ m A) (x c r : Int32) (d : Nat) : zOM m (zEv (d + 20) mX11_isCached [.inr (.inl (some m)), .inl x, .inl c, .inl r] σ) (rIsC A x c r) A σ := by
  have hI1 := hI.th
  have hM := hI1.1
  have hV := hI1.2.1
  have hn8 := hG.1.2.2.1
  have key : ∀ r, zOM m (some (some (.inl r), zsi σ 576 m 0)) r A σ := fun r => zOM.same hI r
  have tc := tlN_8 hG.1.1.2 hG.2.2.2.2.1.1
  have tr := tlN_8 hG.1.2.1.2 hG.2.2.2.2.1.1
  have ec := s_mcolumns hG hI1 (d + 18)
  have er := s_mrows hG hI1 (d + 18)
  have hU := hI1.2.2.2.1
  rw [vX11_isCached]
  unfold fX11_isCached rIsC
  simp only [zlt_e, chk_e, hI.1.k, if_true]
  generalize zsi σ 576 m 0 = τ at *
  simp only [zlt_e, chk_e, bnI_s, hM.k, if_true, s_misLayer hM hV hn8, zb_0, s_in, ec, er, w_n (n := tlN (cW (aC A)) (tSd (aT A))) (by omega) (by omega), w_n (n := tlN (cH (aC A)) (tSd (aT A))) (by omega) (by omega)]
  by_cases hx : zin x (cN (aC A))
  · rw [if_neg (fun q => q hx)]
    by_cases hc : zin c (tlN (cW (aC A)) (tSd (aT A)))
    · rw [if_neg (fun q => q hc)]
      by_cases hr : zin r (tlN (cH (aC A)) (tSd (aT A)))
      · rw [if_neg (fun q => q hr), if_pos ⟨hx, hc, hr⟩]
        obtain ⟨ex, hk⟩ := zin_n hx
        obtain ⟨ec', hc8⟩ := zin_n hc
        obtain ⟨er', hr8⟩ := zin_n hr
        generalize x.toNatClampNeg = k at *
        generalize c.toNatClampNeg = c' at *
        generalize r.toNatClampNeg = r' at *
        subst ex
        subst ec'
        subst er'
        have hs := sN_lt (l := k) (c := c') (r := r') (by omega) (by omega) (by omega)
        have ei : (64 * nI k) + (8 * nI r') + nI c' = nI (sN k c' r') := by
          rw [nL 64, nL 8, pk_mul, pk_mul, nI_add, nI_add]
          rfl
        have hle : (nI (aU A (sN k c' r')) ≤ 0) ↔ aU A (sN k c' r') ≤ 0 := n_le (hG.u31 hB _ hs) (by decide)
        simp only [onR_s, hM.u.1, hM.u.2.1, hM.u.2.2, ei, n_zin (show sN k c' r' < 2 ^ 31 by omega), n_tn (show sN k c' r' < 2 ^ 31 by omega), hs, and_self, if_true, hU _ hs, hle]
        by_cases hu : aU A (sN k c' r') = 0
        · rw [if_pos (by omega), if_pos hu]; exact key _
        · rw [if_neg (by omega), if_neg hu]; exact key _
      · rw [if_pos hr, if_neg (fun q => hr q.2.2)]; exact key _
    · rw [if_pos hc, if_neg (fun q => hc q.2.1)]; exact key _
  · rw [if_pos hx, if_neg (fun q => hx q.1)]; exact key _
