/-! setEnabled -/
def rEn (A : zW) (x p : Int32) : Int32 := if zin x (cN (aC A)) ∧ 0 ≤ p.toInt ∧ p.toInt ≤ 1 then (if cL (aC A) x.toNatClampNeg 5 = p.toInt then -1002 else nI (onN (cL (stC (aC A) x.toNatClampNeg (upR (cL (aC A) x.toNatClampNeg) 5 p.toInt))) (cN (aC A)))) else -1001
def tEn (A : zW) (x p : Int32) : zW := if zin x (cN (aC A)) ∧ 0 ≤ p.toInt ∧ p.toInt ≤ 1 then (if cL (aC A) x.toNatClampNeg 5 = p.toInt then A else aRow A x.toNatClampNeg (upR (cL (aC A) x.toNatClampNeg) 5 p.toInt)) else A
theorem GL.up5 {l : Nat → Int} (h : GL l) {p : Int} (hp : 0 ≤ p ∧ p ≤ 1) : GL (upR l 5 p) := by
  obtain ⟨h0, h1, h2, h3, h4, h5, h6, h7, h8, h9, h10⟩ := h
  refine ⟨h0, h1, h2, h3, ?_, h5, h6, h7, h8, h9, fun j hj => ?_⟩
  · show p = 0 ∨ p = 1
    omega
  have hj : (j : Int) < 3 * l 13 := hj
  have e : upR l 5 p (14 + j) = l (14 + j) := by unfold upR; rw [if_neg (by omega)]
  rw [e]
  exact h10 j hj
theorem GA.en {A : zW} {B : Nat} (hG : GA A B) (x p : Int32) : GA (tEn A x p) B := by
  unfold tEn
  split
  · next h =>
    split
    · exact hG
    · have hk := (zin_n h.1).2
      exact hG.row hk ((hG.1.2.2.2.2 _ hk).up5 h.2)
  · exact hG
theorem c_setEnabled {σ : zS} {o B : Nat} {A : zW} {q u P : Nat → Nat} (hG : GA A B) (hB : B < 2 ^ 30) (hI : CIx σ o A q u P) (x p : Int32) (d : Nat) : zOC o (zEv (d + 20) mX10_setEnabled [.inr (.inl (some o)), .inl x, .inl p] σ) (rEn A x p) (tEn A x p) σ := by
  have hR := hI.1
  have hO := hR.1
  have hn8 := hG.1.2.2.1
  have w2 : ((0 : Int32) ≤ p ∧ p ≤ 1) ↔ 0 ≤ p.toInt ∧ p.toInt ≤ 1 := w_in (a := 0) (b := 1) (by decide) (by decide) (by decide) (by decide)
  have key : ∀ r, zOC o (some (some (.inl r), σ)) r A σ := fun r => zOC.same hI r
  rw [vX10_setEnabled]
  unfold fX10_setEnabled rEn tEn
  simp only [zlt_e, onR_s, nul_s, nul_n, chk_e, bnI_s, bnR_s, bnV_s, zi_si, zi_sr, zi_sl, zi_sa, zi_sq, zr_si, zr_sr, zr_sl, zr_sa, zr_sq, zl_si, zl_sr, zl_sl, zl_sa, zl_sq, zai_si, zai_sr, zai_sl, zai_sa, zai_sq, zar_si, zar_sr, zar_sl, zar_sa, zar_sq, zkd_si, zkd_sr, zkd_sl, zkd_sa, zkd_sq, zln_si, zln_sr, zln_sl, zln_sa, zln_sq, znx_si, znx_sr, znx_sl, znx_sa, znx_sq, hO.f.1, hO.f.2.1, hO.c.1, if_true]
  by_cases hx : zin x (cN (aC A))
  · obtain ⟨ex, hk⟩ := zin_n hx
    generalize x.toNatClampNeg = k at *
    subst ex
    have hqk := (hR.2.1.1 k (by omega)).2
    have hls := hO.c.2.2.2.2.2.2 (q k) hqk
    have hg := hG.1.2.2.2.2 k hk
    have a5 : zi σ 133 (o + 1 + 4 + 3 * q k) = iI (cL (aC A) k 5) := (hR.2.2.1.2.2 k hk).1 5 (by decide)
    simp only [zlt_e, onR_s, nul_s, nul_n, chk_e, bnI_s, bnR_s, bnV_s, zi_si, zi_sr, zi_sl, zi_sa, zi_sq, zr_si, zr_sr, zr_sl, zr_sa, zr_sq, zl_si, zl_sr, zl_sl, zl_sa, zl_sq, zai_si, zai_sr, zai_sl, zai_sa, zai_sq, zar_si, zar_sr, zar_sl, zar_sa, zar_sq, zkd_si, zkd_sr, zkd_sl, zkd_sa, zkd_sq, zln_si, zln_sr, zln_sl, zln_sa, zln_sq, znx_si, znx_sr, znx_sl, znx_sa, znx_sq, s_layerAt hO.c hR.2.1 hR.2.2.1.2.1 hn8 hk, s_within, w2, zb_0]
    by_cases hp : 0 ≤ p.toInt ∧ p.toInt ≤ 1
    · have hc : zin (nI k) (cN (aC A)) ∧ 0 ≤ p.toInt ∧ p.toInt ≤ 1 := ⟨hx, hp⟩
      rw [if_neg (fun q => q hp), if_pos hc, if_pos hc]
      have h5 := hg.2.2.2.2.1
      have fin : ∀ (z : zV) (v : Int32), zB v → v = iI p.toInt → zOC o (LX10_setEnabled_36 (zEv (d + 19)) o (nI k) z (some (o + 1 + 4 + 3 * q k)) v σ) (if cL (aC A) k 5 = p.toInt then -1002 else nI (onN (cL (stC (aC A) k (upR (cL (aC A) k) 5 p.toInt))) (cN (aC A)))) (if cL (aC A) k 5 = p.toInt then A else aRow A k (upR (cL (aC A) k) 5 p.toInt)) σ := by
        intro z v hz ev
        have ee : (iI (cL (aC A) k 5) = v) ↔ cL (aC A) k 5 = p.toInt := by rw [ev]; exact i_eq (by omega) (by omega) (by omega) (by omega)
        rw [uX10_setEnabled_36]
        simp only [zlt_e, onR_s, nul_s, nul_n, chk_e, bnI_s, bnR_s, bnV_s, zi_si, zi_sr, zi_sl, zi_sa, zi_sq, zr_si, zr_sr, zr_sl, zr_sa, zr_sq, zl_si, zl_sr, zl_sl, zl_sa, zl_sq, zai_si, zai_sr, zai_sl, zai_sa, zai_sq, zar_si, zar_sr, zar_sl, zar_sa, zar_sq, zkd_si, zkd_sr, zkd_sl, zkd_sa, zkd_sq, zln_si, zln_sr, zln_sl, zln_sa, zln_sq, znx_si, znx_sr, znx_sl, znx_sa, znx_sq, hls.1, if_true, a5, ee, hO.f.1]
        by_cases h : cL (aC A) k 5 = p.toInt
        · rw [if_pos h, if_pos h, if_pos h]; exact key _
        · rw [if_neg h, if_neg h, if_neg h]
          obtain ⟨τ, u', k1, k2, k3⟩ := s_startChange hG hB hI (show k ≤ 8 by omega) (d + 12)
          have hls' := k3.1.1.c.2.2.2.2.2.2 (q k) hqk
          have hlv := k3.1.2.2.1.2.2 k hk
          have g1 : zFr (inL (o + 1 + 4 + 3 * q k)) τ (zsi τ (128 + 5) (o + 1 + 4 + 3 * q k) (iI p.toInt)) := zFr.si _ (by unfold inL; omega)
          have hI2 := k3.row hG hk g1 (hlv.si (j := 5) (by decide) p.toInt)
          have hGr := hG.row hk (hg.up5 hp)
          have ec := s_enabledCount hI2.1.1.c hI2.1.2.1 hI2.1.2.2.1 hGr.1.2.2.1 hGr.1.2.2.2.2 (d + 17)
          have ef : zsi τ (128 + 5) (o + 1 + 4 + 3 * q k) (iI p.toInt) = zsi τ 133 (o + 1 + 4 + 3 * q k) v := by rw [ev]
          rw [ef] at g1 hI2 ec
          simp only [zlt_e, onR_s, nul_s, nul_n, chk_e, bnI_s, bnR_s, bnV_s, zi_si, zi_sr, zi_sl, zi_sa, zi_sq, zr_si, zr_sr, zr_sl, zr_sa, zr_sq, zl_si, zl_sr, zl_sl, zl_sa, zl_sq, zai_si, zai_sr, zai_sl, zai_sa, zai_sq, zar_si, zar_sr, zar_sl, zar_sa, zar_sq, zkd_si, zkd_sr, zkd_sl, zkd_sa, zkd_sq, zln_si, zln_sr, zln_sl, zln_sa, zln_sq, znx_si, znx_sr, znx_sl, znx_sa, znx_sq, k1, hls'.1, hz, and_self, k3.1.1.f.1, k3.1.1.f.2.1, k3.1.1.c.1, if_true, ec]
          exact ⟨_, q, u', P, rfl, hI2, (k2.mono (fun a ha => by unfold inHU inH inU at ha; omega)).tr (g1.mono (fun a ha => by unfold inL at ha; omega))⟩
      by_cases hp1 : p = 1
      · rw [if_pos hp1]
        exact fin _ 1 (Or.inr rfl) (by rw [hp1]; rfl)
      · rw [if_neg hp1]
        refine fin _ 0 (Or.inl rfl) ?_
        have : p.toInt ≠ 1 := fun e => hp1 (by rw [i_of p, e]; rfl)
        have e0 : p.toInt = 0 := by omega
        rw [e0]; rfl
    · rw [if_pos hp, if_neg (fun q => hp q.2), if_neg (fun q => hp q.2)]
      exact key _
  · rw [if_neg (fun q => hx q.1), if_neg (fun q => hx q.1)]
    simp only [zlt_e, onR_s, nul_s, nul_n, chk_e, bnI_s, bnR_s, bnV_s, zi_si, zi_sr, zi_sl, zi_sa, zi_sq, zr_si, zr_sr, zr_sl, zr_sa, zr_sq, zl_si, zl_sr, zl_sl, zl_sa, zl_sq, zai_si, zai_sr, zai_sl, zai_sa, zai_sq, zar_si, zar_sr, zar_sl, zar_sa, zar_sq, zkd_si, zkd_sr, zkd_sl, zkd_sa, zkd_sq, zln_si, zln_sr, zln_sl, zln_sa, zln_sq, znx_si, znx_sr, znx_sl, znx_sa, znx_sq, s_layerNo hO.c hR.2.2.1.2.1 hn8 hx]
    exact key _
