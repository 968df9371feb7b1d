/-! setEnabled -/
def rEn (A : zW) (x p : Int32) : Int32 := if zin x (cN (aC A)) ∧ 0 ≤ p.toInt ∧ p.toInt ≤ 1 then (if cL (aC A) x.toNatClampNeg 5 = p.toInt then -1002 else nI (onN (cL (stC (aC A) x.toNatClampNeg (upR (cL (aC A) x.toNatClampNeg) 5 p.toInt))) (cN (aC A)))) else -1001
def tEn (A : zW) (x p : Int32) : zW := if zin x (cN (aC A)) ∧ 0 ≤ p.toInt ∧ p.toInt ≤ 1 then (if cL (aC A) x.toNatClampNeg 5 = p.toInt then A else aRow A x.toNatClampNeg (upR (cL (aC A) x.toNatClampNeg) 5 p.toInt)) else A
theorem GL.up5 {l : Nat → Int} (h : GL l) {p : Int} (hp : 0 ≤ p ∧ p ≤ 1) : GL (upR l 5 p) := by
  obtain ⟨h0, h1, h2, h3, h4, h5, h6, h7, h8, h9, h10⟩ := h
  refine ⟨h0, h1, h2, h3, ?_, h5, h6, h7, h8, h9, fun j hj => ?_⟩
  · show p = 0 ∨ p = 1
    omega
  have hj : (j : Int) < 3 * l 13 := hj
  have e : upR l 5 p (14 + j) = l (14 + j) := by unfold upR; rw [if_neg (by omega)]
  rw [e]
  exact h10 j hj
theorem GA.en {A : zW} {B : Nat} (hG : GA A B) (x p : Int32) : GA (tEn A x p) B := by
  unfold tEn
  split
  · next h =>
    split
    · exact hG
    · have hk := (zin_n h.1).2
      exact hG.row hk ((hG.1.2.2.2.2 _ hk).up5 h.2)
  · exact hG
theorem c_setEnabled {σ : zS} {o B : Nat} {A : zW} {q u P : Nat → Nat} (hG : GA A B) (hB : B < 2 ^ 30) (hI : CIx σ o A q u P) (x p : Int32) (d : Nat) : zOC o (zEv (d + 20) mX10_setEnabled [.inr (.inl (some o)), .inl x, .inl p] σ) (rEn A x p) (tEn A x p) σ := by
  have hR := hI.1
  have hO := hR.1
  have hn8 := hG.1.2.2.1
  have w2 : ((0 : Int32) ≤ p ∧ p ≤ 1) ↔ 0 ≤ p.toInt ∧ p.toInt ≤ 1 := w_in (a := 0) (b := 1) (by decide) (by decide) (by decide) (by decide)
  have key : ∀ r, zOC o (some (some (.inl r), σ)) r A σ := fun r => zOC.same hI r
  rw [vX10_setEnabled]
  unfold fX10_setEnabled rEn tEn
  simp only [zlt_e, onR_s, nul_s, nul_n, chk_e, bnI_s, bnR_s, bnV_s, zi_si, zi_sr, zi_sl, zi_sa, zi_sq, zr_si, zr_sr, zr_sl, zr_sa, zr_sq, zl_si, zl_sr, zl_sl, zl_sa, zl_sq, zai_si, zai_sr, zai_sl, zai_sa, zai_sq, zar_si, zar_sr, zar_sl, zar_sa, zar_sq, zkd_si, zkd_sr, zkd_sl, zkd_sa, zkd_sq, zln_si, zln_sr, zln_sl, zln_sa, zln_sq, znx_si, znx_sr, znx_sl, znx_sa, znx_sq, hO.f.1, hO.f.2.1, hO.c.1, if_true]
  by_cases hx : zin x (cN (aC A))
  · obtain ⟨ex, hk⟩ := zin_n hx
    generalize x.toNatClampNeg = k at *
    subst ex
    have hqk := (hR.2.1.1 k (by omega)).2
    have hls := hO.c.2.2.2.2.2.2 (q k) hqk
    have hg := hG.1.2.2.2.2 k hk
    have a5 : zi σ 133 (o + 1 + 4 + 3 * q k) = iI (cL (aC A) k 5) := (hR.2.2.1.2.2 k hk).1 5 (by decide)
    simp only [zlt_e, onR_s, nul_s, nul_n, chk_e, bnI_s, bnR_s, bnV_s, zi_si, zi_sr, zi_sl, zi_sa, zi_sq, zr_si, zr_sr, zr_sl, zr_sa, zr_sq, zl_si, zl_sr, zl_sl, zl_sa, zl_sq, zai_si, zai_sr, zai_sl, zai_sa, zai_sq, zar_si, zar_sr, zar_sl, zar_sa, zar_sq, zkd_si, zkd_sr, zkd_sl, zkd_sa, zkd_sq, zln_si, zln_sr, zln_sl, zln_sa, zln_sq, znx_si, znx_sr, znx_sl, znx_sa, znx_sq, s_layerAt hO.c hR.2.1 hR.2.2.1.2.1 hn8 hk, s_within, w2, zb_0]
    by_cases hp : 0 ≤ p.toInt ∧ p.toInt ≤ 1
    · have hc : zin (nI k) (cN (aC A)) ∧ 0 ≤ p.toInt ∧ p.toInt ≤ 1 := ⟨hx, hp⟩
      rw [if_neg (fun q => q hp), if_pos hc, if_pos hc]
      have h5 := hg.2.2.2.2.1
      have fin : ∀ (z : zV) (v : Int32), zB v → v = iI p.toInt → zOC o (LX10_setEnabled_36 (zEv (d + 19)) o (nI k) z (some (o + 1 + 4 + 3 * q k)) v σ) (if cL (aC A) k 5 = p.toInt then -1002 else nI (onN (cL (stC (aC A) k (upR (cL (aC A) k) 5 p.toInt))) (cN (aC A)))) (if cL (aC A) k 5 = p.toInt then A else aRow A k (upR (cL (aC A) k) 5 p.toInt)) σ := by
        intro z v hz ev
        have ee : (iI (cL (aC A) k 5) = v) ↔ cL (aC A) k 5 = p.toInt := by rw [ev]; exact i_eq (by omega) (by omega) (by omega) (by omega)
        rw [uX10_setEnabled_36]
        simp only [zlt_e, onR_s, nul_s, nul_n, chk_e, bnI_s, bnR_s, bnV_s, zi_si, zi_sr, zi_sl, zi_sa, zi_sq, zr_si, zr_sr, zr_sl, zr_sa, zr_sq, zl_si, zl_sr, zl_sl, zl_sa, zl_sq, zai_si, zai_sr, zai_sl, zai_sa, zai_sq, zar_si, zar_sr, zar_sl, zar_sa, zar_sq, zkd_si, zkd_sr, zkd_sl, zkd_sa, zkd_sq, zln_si, zln_sr, zln_sl, zln_sa, zln_sq, znx_si, znx_sr, znx_sl, znx_sa, znx_sq, hls.1, if_true, a5, ee, hO.f.1]
        by_cases h : cL (aC A) k 5 = p.toInt
        · rw [if_pos h, if_pos h, if_pos h]; exact key _
        · rw [if_neg h, if_neg h, if_neg h]
          obtain ⟨τ, u', k1, k2, k3⟩ := s_startChange hG hB hI (show k ≤ 8 by omega) (d + 12)
          have hls' := k3.1.1.c.2.2.2.2.2.2 (q k) hqk
          have hlv := k3.1.2.2.1.2.2 k hk
          have g1 : zFr (inL (o + 1 + 4 + 3 * q k)) τ (zsi τ (128 + 5) (o + 1 + 4 + 3 * q k) (iI p.toInt)) := zFr.si _ (by unfold inL; omega)
          have hI2 := k3.row hG hk g1 (hlv.si (j := 5) (by decide) p.toInt)
          have hGr := hG.row hk (hg.up5 hp)
          have ec := s_enabledCount hI2.1.1.c hI2.1.2.1 hI2.1.2.2.1 hGr.1.2.2.1 hGr.1.2.2.2.2 (d + 17)
          have ef : zsi τ (128 + 5) (o + 1 + 4 + 3 * q k) (iI p.toInt) = zsi τ 133 (o + 1 + 4 + 3 * q k) v := by rw [ev]
          rw [ef] at g1 hI2 ec
          simp only [zlt_e, onR_s, nul_s, nul_n, chk_e, bnI_s, bnR_s, bnV_s, zi_si, zi_sr, zi_sl, zi_sa, zi_sq, zr_si, zr_sr, zr_sl, zr_sa, zr_sq, zl_si, zl_sr, zl_sl, zl_sa, zl_sq, zai_si, zai_sr, zai_sl, zai_sa, zai_sq, zar_si, zar_sr, zar_sl, zar_sa, zar_sq, zkd_si, zkd_sr, zkd_sl, zkd_sa, zkd_sq, zln_si, zln_sr, zln_sl, zln_sa, zln_sq, znx_si, znx_sr, znx_sl, znx_sa, znx_sq, k1, hls'.1, hz, and_self, k3.1.1.f.1, k3.1.1.f.2.1, k3.1.1.c.1, if_true, ec]
          exact ⟨_, q, u', P, rfl, hI2, (k2.mono (fun a ha => by unfold inHU inH inU at ha; omega)).tr (g1.mono (fun a ha => by unfold inL at ha; omega))⟩
      by_cases hp1 : p = 1
      · rw [if_pos hp1]
        exact fin _ 1 (Or.inr rfl) (by rw [hp1]; rfl)
      · rw [if_neg hp1]
        refine fin _ 0 (Or.inl rfl) ?_
        have : p.toInt ≠ 1 := fun e => hp1 (by rw [i_of p, e]; rfl)
        have e0 : p.toInt = 0 := by omega
        rw [e0]; rfl
    · rw [if_pos hp, if_neg (fun q => hp q.2), if_neg (fun q => hp q.2)]
      exact key _
  · rw [if_neg (fun q => hx q.1), if_neg (fun q => hx q.1)]
    simp only [zlt_e, onR_s, nul_s, nul_n, chk_e, bnI_s, bnR_s, bnV_s, zi_si, zi_sr, zi_sl, zi_sa, zi_sq, zr_si, zr_sr, zr_sl, zr_sa, zr_sq, zl_si, zl_sr, zl_sl, zl_sa, zl_sq, zai_si, zai_sr, zai_sl, zai_sa, zai_sq, zar_si, zar_sr, zar_sl, zar_sa, zar_sq, zkd_si, zkd_sr, zkd_sl, zkd_sa, zkd_sq, zln_si, zln_sr, zln_sl, zln_sa, zln_sq, znx_si, znx_sr, znx_sl, znx_sa, znx_sq, s_layerNo hO.c hR.2.2.1.2.1 hn8 hx]
    exact key _
/-- the reference: a change of a row is begun: the state kept, the cells of the row's own free to be stored -/
theorem s_monN {σ : zS} {m : Nat} {C : zC} (hM : MS σ m) (hV : MV σ (m + 1) 0 C) (hn8 : cN C ≤ 8) (hg : ∀ i, i < cN C → GL (cL C i)) (z1 z2 : zV) (d : Nat) : LX11_setEnabled_74 (zEv (d + 2)) m z1 z2 0 0 σ = some (some (.inl (nI (onN (cL C) (cN C)))), σ) := by
  have t2 : (258 : Int32).toNatClampNeg = 258 := rfl
  have z258 : zin 258 515 = True := eq_true (by decide)
  have vn : zai σ (m + 1) 258 = nI (cN C) := hV.2.2.2.1
  obtain ⟨t, h1, h2⟩ := loop_from (fun k (t : Int32) => LX11_setEnabled_74 (zEv (d + 2)) m z1 z2 t (nI k) σ) (fun k t => t = nI (onN (cL C) k)) 0 (cN C) (fun t => some (some (.inl t), σ)) 0 (Nat.zero_le _) rfl
    (fun k t hk hI => by
      have hI : t = _ := hI
      refine ⟨nI (onN (cL C) (k + 1)), ?_, rfl⟩
      show LX11_setEnabled_74 _ _ _ _ _ _ _ = LX11_setEnabled_74 _ _ _ _ _ _ _
      rw [uX11_setEnabled_74, hI]
      simp only [zlt_e, onR_s, nul_s, nul_n, chk_e, bnI_s, bnR_s, bnV_s, zi_si, zi_sr, zi_sl, zi_sa, zi_sq, zr_si, zr_sr, zr_sl, zr_sa, zr_sq, zl_si, zl_sr, zl_sl, zl_sa, zl_sq, zai_si, zai_sr, zai_sl, zai_sa, zai_sq, zar_si, zar_sr, zar_sl, zar_sa, zar_sq, zkd_si, zkd_sr, zkd_sl, zkd_sa, zkd_sq, zln_si, zln_sr, zln_sl, zln_sa, zln_sq, znx_si, znx_sr, znx_sl, znx_sa, znx_sq, hM.k, hM.s.1, hM.s.2.1, hM.s.2.2, z258, t2, and_self, if_true, vn, n_lt (show k < 2 ^ 31 by omega) (show cN C < 2 ^ 31 by omega), hk, s_misOn hM hV hn8 (hg k hk) hk, zb_0, nI_1]
      have e : onN (cL C) (k + 1) = onN (cL C) k + if cL C k 5 = 1 then 1 else 0 := rfl
      by_cases h0 : cL C k 5 = 1
      · rw [if_neg (fun q => q h0), e, if_pos h0]
      · rw [if_pos h0, e, if_neg h0]
        have : nI (onN (cL C) k) + 0 = nI (onN (cL C) k + 0) := nI_add _ 0
        rw [this])
    (fun t hI => by
      rw [uX11_setEnabled_74]
      simp only [zlt_e, onR_s, nul_s, nul_n, chk_e, bnI_s, bnR_s, bnV_s, zi_si, zi_sr, zi_sl, zi_sa, zi_sq, zr_si, zr_sr, zr_sl, zr_sa, zr_sq, zl_si, zl_sr, zl_sl, zl_sa, zl_sq, zai_si, zai_sr, zai_sl, zai_sa, zai_sq, zar_si, zar_sr, zar_sl, zar_sa, zar_sq, zkd_si, zkd_sr, zkd_sl, zkd_sa, zkd_sq, zln_si, zln_sr, zln_sl, zln_sa, zln_sq, znx_si, znx_sr, znx_sl, znx_sa, znx_sq, hM.k, hM.s.1, hM.s.2.1, hM.s.2.2, z258, t2, and_self, if_true, vn, n_lt (show cN C < 2 ^ 31 by omega) (show cN C < 2 ^ 31 by omega), Nat.lt_irrefl, if_false])
  have h2 : t = _ := h2
  rw [h2] at h1
  exact h1
theorem m_setEnabled {σ : zS} {m B : Nat} {A : zW} (hG : GA A B) (hB : B < 2 ^ 30) (hI : MIx σ m A) (x p : Int32) (d : Nat) : zOM m (zEv (d + 20) mX11_setEnabled [.inr (.inl (some m)), .inl x, .inl p] σ) (rEn A x p) (tEn A x p) σ := by
  have hn8 := hG.1.2.2.1
  have hI1 := hI.th
  have g0 : zFr (fun a => m ≤ a ∧ a < m + 22) σ (zsi σ 576 m 0) := zFr.si σ (by omega)
  have w2 : ((0 : Int32) ≤ p ∧ p ≤ 1) ↔ 0 ≤ p.toInt ∧ p.toInt ≤ 1 := w_in (a := 0) (b := 1) (by decide) (by decide) (by decide) (by decide)
  have key : ∀ r, zOM m (some (some (.inl r), zsi σ 576 m 0)) r A σ := fun r => zOM.same hI r
  rw [vX11_setEnabled]
  unfold fX11_setEnabled rEn tEn
  simp only [zlt_e, chk_e, hI.1.k, if_true]
  generalize zsi σ 576 m 0 = σ1 at *
  simp only [zlt_e, chk_e, bnI_s, hI1.1.k, if_true, s_misLayer hI1.1 hI1.2.1 hn8, zb_0, s_in, w2]
  by_cases hx : zin x (cN (aC A))
  · obtain ⟨ex, hk⟩ := zin_n hx
    generalize x.toNatClampNeg = k at *
    subst ex
    rw [if_neg (fun q => q hx)]
    by_cases hp : 0 ≤ p.toInt ∧ p.toInt ≤ 1
    · have hc : zin (nI k) (cN (aC A)) ∧ 0 ≤ p.toInt ∧ p.toInt ≤ 1 := ⟨hx, hp⟩
      rw [if_neg (fun q => q hp), if_pos hc, if_pos hc]
      have hg := hG.1.2.2.2.2 k hk
      have h5 := hg.2.2.2.2.1
      have x5 := ix_r (k := k) (j := 5) (by omega) (by decide)
      have v5 := hI1.2.1.r hk (show 5 < 32 by decide)
      have ep : p = iI p.toInt := i_of p
      have ee : (iI (cL (aC A) k 5) = p) ↔ cL (aC A) k 5 = p.toInt := by
        have : (iI (cL (aC A) k 5) = iI p.toInt) ↔ cL (aC A) k 5 = p.toInt := i_eq (by omega) (by omega) (by omega) (by omega)
        rw [← ep] at this
        exact this
      rw [show (5 : Int32) = nI 5 from rfl]
      simp only [s_mat, onR_s, bnI_s, hI1.1.s.1, hI1.1.s.2.1, hI1.1.s.2.2, x5, and_self, if_true, v5, ee]
      by_cases h : cL (aC A) k 5 = p.toInt
      · rw [if_pos h, if_pos h, if_pos h]; exact key _
      · rw [if_neg h, if_neg h, if_neg h]
        obtain ⟨τ, k1, k2, k3⟩ := s_mpush hG hI1 (d + 18)
        have hM2 := k2.1
        have hV3 := (MV.st (l := cL (aC A) k) (by rw [stC_self]; exact k2.2.1) hG.1.1.2 hG.1.2.1.2 (show 5 < 32 by decide) p.toInt)
        rw [← ep] at hV3
        have gs : zFr (fun x => x = m + 1) τ (zsa τ (m + 1) (259 + 32 * k + 5) p) := zFr.sa (P := fun x => x = m + 1) _ rfl
        have hI3 : MIx (zsa τ (m + 1) (259 + 32 * k + 5) p) m (aSet (aPush A) (stC (aC A) k (upR (cL (aC A) k) 5 p.toInt))) := k2.comp gs (fun a _ _ => by omega) (fun f _ => rfl) hV3
        simp only [k1, bnV_s, bnI_s, onR_s, hI1.1.k, hM2.k, hM2.s.1, hM2.s.2.1, hM2.s.2.2, x5, and_self, if_true]
        generalize zsa τ (m + 1) (259 + 32 * k + 5) p = τ2 at *
        obtain ⟨υ, n, l1, l2, l3, l4⟩ := s_mtil (A := aSet (aPush A) (stC (aC A) k (upR (cL (aC A) k) 5 p.toInt))) (hG.u31 hB) hI3 (show k ≤ 8 by omega) (d + 18)
        have hGr := hG.row hk (hg.up5 hp)
        have ec := s_monN (C := stC (aC A) k (upR (cL (aC A) k) 5 p.toInt)) l2.1 l2.2.1 hGr.1.2.2.1 hGr.1.2.2.2.2 (.inl (nI k)) (.inl p) (d + 17)
        simp only [bnI_s, hI3.1.k, if_true, l1, ec]
        exact ⟨υ, rfl, l2, (g0.tr (k3.mono (fun a ha => by omega))).tr ((gs.mono (fun a ha => by omega)).tr (l3.mono (fun a ha => by omega)))⟩
    · rw [if_pos hp, if_neg (fun q => hp q.2), if_neg (fun q => hp q.2)]
      exact key _
  · rw [if_pos hx, if_neg (fun q => hx q.1), if_neg (fun q => hx q.1)]
    exact key _
