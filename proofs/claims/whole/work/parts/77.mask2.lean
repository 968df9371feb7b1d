/-! what-if questions: the reference's side -/
def inMB (m a : Nat) : Prop := a = m ∨ (m + 17 ≤ a ∧ a < m + 22)
def BV (σ : zS) (m w h : Nat) (px : Nat → Nat → Int) : Prop := ∀ k, k < h * w → zai σ (m + 20) k = iI (lin w px k)
theorem BV.fr {P : Nat → Prop} {σ τ : zS} {m w h : Nat} {px : Nat → Nat → Int} (H : BV σ m w h px) (g : zFr P σ τ) (hn : ¬ P (m + 20)) : BV τ m w h px := fun k hk => (g.ai hn _).trans (H k hk)
theorem s_layBeside {σ : zS} {m B : Nat} {A : zW} (hG : GA A B) (hI : MIx σ m A) (d : Nat) : ∃ τ, zEv (d + 7) mX11_layBeside [.inr (.inl (some m))] σ = some (none, τ) ∧ MIx τ m A ∧ zFr (inMB m) σ τ ∧ BV τ m (cW (aC A)) (cH (aC A)) (outI (aC A) (cN (aC A))) := by
  have hw := hG.1.1
  have hh := hG.1.2.1
  have hn8 := hG.1.2.2.1
  have hwh := wh256 hw.2 hh.2
  obtain ⟨τ, h1, h2, h3, h4⟩ := s_compute hI.1 hI.2.1 hG.1 (Nat.le_refl _) d
  have hI2 := hI.cmp h2 h3
  rw [vX11_layBeside]
  unfold fX11_layBeside
  simp only [zlt_e, onR_s, nul_s, nul_n, chk_e, bnI_s, bnR_s, bnV_s, zi_si, zi_sr, zi_sl, zi_sa, zi_sq, zr_si, zr_sr, zr_sl, zr_sa, zr_sq, zl_si, zl_sr, zl_sl, zl_sa, zl_sq, zai_si, zai_sr, zai_sl, zai_sa, zai_sq, zar_si, zar_sr, zar_sl, zar_sa, zar_sq, zkd_si, zkd_sr, zkd_sl, zkd_sa, zkd_sq, zln_si, zln_sr, zln_sl, zln_sa, zln_sq, znx_si, znx_sr, znx_sl, znx_sa, znx_sq, hI.1.k, if_true, s_mtop hI.1 hI.2.1, h1]
  obtain ⟨υ, a1, a2⟩ := loop_from (fun j υ => LX11_layBeside_11 (zEv (d + 6)) m (nI (256 * cN (aC A))) (nI j) υ) (fun j υ => zFr (fun x => x = m + 20) τ υ ∧ (∀ f x, zi υ f x = zi τ f x) ∧ ∀ k, k < j → zai υ (m + 20) k = iI (lin (cW (aC A)) (outI (aC A) (cN (aC A))) k)) 0 (cH (aC A) * cW (aC A)) (fun υ => some (none, υ)) τ (Nat.zero_le _) ⟨zFr.rf τ, fun _ _ => rfl, fun k hk => absurd hk (Nat.not_lt_zero _)⟩
    (fun j υ hj hIj => by
      obtain ⟨g, gi, ga⟩ := hIj
      have hM' := hI2.1.fr g
      have hV' : MV υ (m + 1) 0 (aC A) := hI2.2.1.fr g (by omega)
      have ev : zai υ (m + 17) (256 * cN (aC A) + j) = iI (lin (cW (aC A)) (outI (aC A) (cN (aC A))) j) := (g.ai (by omega) _).trans (h4.lin hj (by omega))
      refine ⟨zsa υ (m + 20) j (iI (lin (cW (aC A)) (outI (aC A) (cN (aC A))) j)), ?_, g.tr (zFr.sa _ rfl), gi, fun k hk => ?_⟩
      · show LX11_layBeside_11 _ _ _ _ _ = LX11_layBeside_11 _ _ _ _ _
        rw [uX11_layBeside_11]
        simp only [zlt_e, onR_s, nul_s, nul_n, chk_e, bnI_s, bnR_s, bnV_s, zi_si, zi_sr, zi_sl, zi_sa, zi_sq, zr_si, zr_sr, zr_sl, zr_sa, zr_sq, zl_si, zl_sr, zl_sl, zl_sa, zl_sq, zai_si, zai_sr, zai_sl, zai_sa, zai_sq, zar_si, zar_sr, zar_sl, zar_sa, zar_sq, zkd_si, zkd_sr, zkd_sl, zkd_sa, zkd_sq, zln_si, zln_sr, zln_sl, zln_sa, zln_sq, znx_si, znx_sr, znx_sl, znx_sa, znx_sq, hM'.k, hM'.o.1, hM'.o.2.1, hM'.o.2.2, hM'.bs.1, hM'.bs.2.1, hM'.bs.2.2, if_true, s_pixels hM' hV', n_lt (show j < 2 ^ 31 by omega) (show cH (aC A) * cW (aC A) < 2 ^ 31 by omega), hj, nI_add, n_zin (show 256 * cN (aC A) + j < 2 ^ 31 by omega), n_tn (show 256 * cN (aC A) + j < 2 ^ 31 by omega), show 256 * cN (aC A) + j < 2304 by omega, n_zin (show j < 2 ^ 31 by omega), n_tn (show j < 2 ^ 31 by omega), show j < 256 by omega, and_self, ev, nI_1]
      · rw [zai_sa]
        by_cases e : k = j
        · rw [if_pos ⟨rfl, e⟩, e]
        · rw [if_neg (by omega)]
          exact ga k (by omega))
    (fun υ hIj => by
      have hM' := hI2.1.fr hIj.1
      have hV' : MV υ (m + 1) 0 (aC A) := hI2.2.1.fr hIj.1 (by omega)
      rw [uX11_layBeside_11]
      simp only [zlt_e, onR_s, nul_s, nul_n, chk_e, bnI_s, bnR_s, bnV_s, zi_si, zi_sr, zi_sl, zi_sa, zi_sq, zr_si, zr_sr, zr_sl, zr_sa, zr_sq, zl_si, zl_sr, zl_sl, zl_sa, zl_sq, zai_si, zai_sr, zai_sl, zai_sa, zai_sq, zar_si, zar_sr, zar_sl, zar_sa, zar_sq, zkd_si, zkd_sr, zkd_sl, zkd_sa, zkd_sq, zln_si, zln_sr, zln_sl, zln_sa, zln_sq, znx_si, znx_sr, znx_sl, znx_sa, znx_sq, hM'.k, if_true, s_pixels hM' hV', n_lt (show cH (aC A) * cW (aC A) < 2 ^ 31 by omega) (show cH (aC A) * cW (aC A) < 2 ^ 31 by omega), Nat.lt_irrefl, if_false])
  obtain ⟨g, gi, ga⟩ := a2
  exact ⟨υ, a1, hI2.fr g (fun a _ _ => by omega) (fun f _ => gi f m), (h2.mono (fun a ha => by unfold inM at ha; unfold inMB; omega)).tr (g.mono (fun a ha => by unfold inMB; omega)), ga⟩
theorem neI_comm (a b : Int) : neI a b = neI b a := by
  unfold neI
  by_cases h : a = b
  · rw [if_pos h, if_pos h.symm]
  · rw [if_neg h, if_neg (fun q => h q.symm)]
theorem dI_comm (a b : Int) : dI a b = dI b a := by
  unfold dI
  by_cases h1 : a - b < 0
  · rw [if_pos h1, if_neg (by omega)]; omega
  · rw [if_neg h1]
    by_cases h2 : b - a < 0
    · rw [if_pos h2]; omega
    · rw [if_neg h2]; omega
theorem lin_two (w : Nat) (f : Int → Int → Int) (px qx : Nat → Nat → Int) (k : Nat) : lin w (fun x y => f (px x y) (qx x y)) k = f (lin w px k) (lin w qx k) := rfl
theorem s_mdiff {σ : zS} {m : Nat} {C2 : zC} {px : Nat → Nat → Int} (hM : MS σ m) (hV : MV σ (m + 1) 0 C2) (G : GC C2) (hb : BV σ m (cW C2) (cH C2) px) (hp : pxR (cW C2) (cH C2) px) (d : Nat) : ∃ τ, zEv (d + 7) mX11_differences [.inr (.inl (some m))] σ = some (some (.inl (iI (sm (lin (cW C2) fun x y => neI (px x y) (outI C2 (cN C2) x y)) (cH C2 * cW C2)))), τ) ∧ zFr (inM m) σ τ ∧ keepM m σ τ := by
  have hw := G.1
  have hh := G.2.1
  have hn8 := G.2.2.1
  have hwh := wh256 hw.2 hh.2
  obtain ⟨τ, h1, h2, h3, h4⟩ := s_compute hM hV G (Nat.le_refl _) d
  have hM' := hM.fr h2
  have hV' : MV τ (m + 1) 0 C2 := hV.fr h2 (by unfold inM; omega)
  have hb' := hb.fr h2 (by unfold inM; omega)
  rw [vX11_differences]
  unfold fX11_differences
  simp only [zlt_e, onR_s, nul_s, nul_n, chk_e, bnI_s, bnR_s, bnV_s, zi_si, zi_sr, zi_sl, zi_sa, zi_sq, zr_si, zr_sr, zr_sl, zr_sa, zr_sq, zl_si, zl_sr, zl_sl, zl_sa, zl_sq, zai_si, zai_sr, zai_sl, zai_sa, zai_sq, zar_si, zar_sr, zar_sl, zar_sa, zar_sq, zkd_si, zkd_sr, zkd_sl, zkd_sa, zkd_sq, zln_si, zln_sr, zln_sl, zln_sa, zln_sq, znx_si, znx_sr, znx_sl, znx_sa, znx_sq, hM.k, if_true, s_mtop hM hV, h1]
  obtain ⟨t, a1, a2⟩ := loop_from (fun j (t : Int32) => LX11_differences_13 (zEv (d + 6)) m (nI (256 * cN C2)) t (nI j) τ) (fun j t => t = iI (sm (lin (cW C2) fun x y => neI (px x y) (outI C2 (cN C2) x y)) j)) 0 (cH C2 * cW C2) (fun t => some (some (.inl t), τ)) 0 (Nat.zero_le _) rfl
    (fun j t hj hIj => by
      have hIj : t = _ := hIj
      have ev := h4.lin hj (by omega)
      have eb := hb' j hj
      have p1 := lin_R hp (show 1 ≤ cW C2 by omega) j hj
      have p2 := lin_R (outI_R G _ (Nat.le_refl _)) (show 1 ≤ cW C2 by omega) j hj
      have ee : (iI (lin (cW C2) (outI C2 (cN C2)) j) = iI (lin (cW C2) px j)) ↔ lin (cW C2) (outI C2 (cN C2)) j = lin (cW C2) px j := i_eq (by omega) (by omega) (by omega) (by omega)
      have es : sm (lin (cW C2) fun x y => neI (px x y) (outI C2 (cN C2) x y)) (j + 1) = sm (lin (cW C2) fun x y => neI (px x y) (outI C2 (cN C2) x y)) j + neI (lin (cW C2) px j) (lin (cW C2) (outI C2 (cN C2)) j) := rfl
      refine ⟨iI (sm (lin (cW C2) fun x y => neI (px x y) (outI C2 (cN C2) x y)) (j + 1)), ?_, rfl⟩
      show LX11_differences_13 _ _ _ _ _ _ = LX11_differences_13 _ _ _ _ _ _
      rw [uX11_differences_13, hIj]
      simp only [zlt_e, onR_s, nul_s, nul_n, chk_e, bnI_s, bnR_s, bnV_s, zi_si, zi_sr, zi_sl, zi_sa, zi_sq, zr_si, zr_sr, zr_sl, zr_sa, zr_sq, zl_si, zl_sr, zl_sl, zl_sa, zl_sq, zai_si, zai_sr, zai_sl, zai_sa, zai_sq, zar_si, zar_sr, zar_sl, zar_sa, zar_sq, zkd_si, zkd_sr, zkd_sl, zkd_sa, zkd_sq, zln_si, zln_sr, zln_sl, zln_sa, zln_sq, znx_si, znx_sr, znx_sl, znx_sa, znx_sq, hM'.k, hM'.o.1, hM'.o.2.1, hM'.o.2.2, hM'.bs.1, hM'.bs.2.1, hM'.bs.2.2, if_true, s_pixels hM' hV', n_lt (show j < 2 ^ 31 by omega) (show cH C2 * cW C2 < 2 ^ 31 by omega), hj, nI_add, n_zin (show 256 * cN C2 + j < 2 ^ 31 by omega), n_tn (show 256 * cN C2 + j < 2 ^ 31 by omega), show 256 * cN C2 + j < 2304 by omega, n_zin (show j < 2 ^ 31 by omega), n_tn (show j < 2 ^ 31 by omega), show j < 256 by omega, and_self, ev, eb, ee, nI_1]
      by_cases hv : lin (cW C2) (outI C2 (cN C2)) j = lin (cW C2) px j
      · have e1 : neI (lin (cW C2) px j) (lin (cW C2) (outI C2 (cN C2)) j) = 0 := if_pos hv.symm
        rw [if_pos hv, es, e1, show (0 : Int32) = iI 0 from rfl, i_add]
      · have e1 : neI (lin (cW C2) px j) (lin (cW C2) (outI C2 (cN C2)) j) = 1 := if_neg (fun q => hv q.symm)
        rw [if_neg hv, es, e1, show (1 : Int32) = iI 1 from rfl, i_add])
    (fun t hIj => by
      rw [uX11_differences_13]
      simp only [zlt_e, onR_s, nul_s, nul_n, chk_e, bnI_s, bnR_s, bnV_s, zi_si, zi_sr, zi_sl, zi_sa, zi_sq, zr_si, zr_sr, zr_sl, zr_sa, zr_sq, zl_si, zl_sr, zl_sl, zl_sa, zl_sq, zai_si, zai_sr, zai_sl, zai_sa, zai_sq, zar_si, zar_sr, zar_sl, zar_sa, zar_sq, zkd_si, zkd_sr, zkd_sl, zkd_sa, zkd_sq, zln_si, zln_sr, zln_sl, zln_sa, zln_sq, znx_si, znx_sr, znx_sl, znx_sa, znx_sq, hM'.k, if_true, s_pixels hM' hV', n_lt (show cH C2 * cW C2 < 2 ^ 31 by omega) (show cH C2 * cW C2 < 2 ^ 31 by omega), Nat.lt_irrefl, if_false])
  have a2 : t = _ := a2
  have a1 : LX11_differences_13 (zEv (d + 6)) m (nI (256 * cN C2)) 0 0 τ = _ := a1
  rw [a2] at a1
  exact ⟨τ, a1, h2, h3⟩
theorem up_back (l : Nat → Int) (j : Nat) (v : Int) : upR (upR l j v) j (l j) = l := by
  funext i
  unfold upR
  by_cases e : i = j
  · rw [if_pos e, e]
  · rw [if_neg e, if_neg e]
theorem s_effectOf {σ : zS} {m k B : Nat} {A : zW} (hG : GA A B) (hI : MIx σ m A) (hk : k < cN (aC A)) (d : Nat) : ∃ τ, zEv (d + 8) mX11_effectOf [.inr (.inl (some m)), .inl (nI k)] σ = some (some (.inl (iI (effI (aC A) k))), τ) ∧ MIx τ m A ∧ zFr (fun a => m ≤ a ∧ a < m + 22) σ τ := by
  have hw := hG.1.1
  have hh := hG.1.2.1
  have hn8 := hG.1.2.2.1
  have hwh := wh256 hw.2 hh.2
  have GO := hG.1.off hk
  obtain ⟨τ, h1, h2, h3, h4⟩ := s_layBeside hG hI d
  have x5 := ix_r (k := k) (j := 5) (by omega) (by decide)
  have v5 := h2.2.1.r hk (show 5 < 32 by decide)
  have V1 : MV (zsa τ (m + 1) (259 + 32 * k + 5) 0) (m + 1) 0 (offC (aC A) k) := MV.st (l := cL (aC A) k) (by rw [stC_self]; exact h2.2.1) hw.2 hh.2 (show 5 < 32 by decide) 0
  have g1 : zFr (fun x => x = m + 1) τ (zsa τ (m + 1) (259 + 32 * k + 5) 0) := zFr.sa _ rfl
  have hM1 := h2.1.fr g1
  obtain ⟨υ, k1, k2, k3, k4⟩ := s_compute hM1 V1 GO (Nat.le_refl _) (d + 1)
  have V2 : MV υ (m + 1) 0 (stC (aC A) k (upR (cL (aC A) k) 5 0)) := V1.fr k2 (by unfold inM; omega)
  have V3 := V2.st hw.2 hh.2 (show 5 < 32 by decide) (cL (aC A) k 5)
  rw [up_back, stC_self] at V3
  have g3 : zFr (fun x => x = m + 1) υ (zsa υ (m + 1) (259 + 32 * k + 5) (iI (cL (aC A) k 5))) := zFr.sa _ rfl
  have gall : zFr (fun x => x = m ∨ x = m + 1 ∨ x = m + 17 ∨ x = m + 18) τ (zsa υ (m + 1) (259 + 32 * k + 5) (iI (cL (aC A) k 5))) := (g1.mono (fun a ha => by omega)).tr ((k2.mono (fun a ha => by unfold inM at ha; omega)).tr (g3.mono (fun a ha => by omega)))
  have hI3 : MIx (zsa υ (m + 1) (259 + 32 * k + 5) (iI (cL (aC A) k 5))) m A := h2.comp gall (fun a _ _ => by omega) (fun f hf => (k3 f (by omega) (by omega))) V3
  have hOV : OV (zsa υ (m + 1) (259 + 32 * k + 5) (iI (cL (aC A) k 5))) m (cN (aC A)) (cW (aC A)) (cH (aC A)) (outI (offC (aC A) k) (cN (aC A))) := OV.fr k4 g3 (by omega)
  have hBV := h4.fr gall (by omega)
  have hMu := hM1.fr k2
  rw [vX11_effectOf]
  unfold fX11_effectOf
  rw [show (5 : Int32) = nI 5 from rfl]
  simp only [zlt_e, onR_s, nul_s, nul_n, chk_e, bnI_s, bnR_s, bnV_s, zi_si, zi_sr, zi_sl, zi_sa, zi_sq, zr_si, zr_sr, zr_sl, zr_sa, zr_sq, zl_si, zl_sr, zl_sl, zl_sa, zl_sq, zai_si, zai_sr, zai_sl, zai_sa, zai_sq, zar_si, zar_sr, zar_sl, zar_sa, zar_sq, zkd_si, zkd_sr, zkd_sl, zkd_sa, zkd_sq, zln_si, zln_sr, zln_sl, zln_sa, zln_sq, znx_si, znx_sr, znx_sl, znx_sa, znx_sq, hI.1.k, if_true, h1, s_mat, h2.1.k, h2.1.s.1, h2.1.s.2.1, h2.1.s.2.2, x5, and_self, v5, s_mtop hM1 V1]
  have k1' : zEv (d + 7) mX11_compute [.inr (.inl (some m)), .inl (iI ((cN (offC (aC A) k) : Int) - 1))] (zsa τ (m + 1) (259 + 32 * k + 5) 0) = some (some (.inl (nI (256 * cN (aC A)))), υ) := k1
  simp only [k1', bnI_s, hMu.k, hMu.s.1, hMu.s.2.1, hMu.s.2.2, x5, and_self, if_true, onR_s]
  refine ⟨zsa υ (m + 1) (259 + 32 * k + 5) (iI (cL (aC A) k 5)), ?_, hI3, (h3.mono (fun a ha => by unfold inMB at ha; omega)).tr (gall.mono (fun a ha => by omega))⟩
  generalize zsa υ (m + 1) (259 + 32 * k + 5) (iI (cL (aC A) k 5)) = ω at *
  obtain ⟨t, a1, a2⟩ := loop_from (fun j (t : Int32) => LX11_effectOf_55 (zEv (d + 7)) m (.inl (nI k)) (.inl (iI (cL (aC A) k 5))) (nI (256 * cN (aC A))) t (nI j) ω) (fun j t => t = iI (sm (lin (cW (aC A)) fun x y => dI (outI (aC A) (cN (aC A)) x y) (outI (offC (aC A) k) (cN (aC A)) x y)) j)) 0 (cH (aC A) * cW (aC A)) (fun t => some (some (.inl t), ω)) 0 (Nat.zero_le _) rfl
    (fun j t hj hIj => by
      have hIj : t = _ := hIj
      have ev := hOV.lin hj (by omega)
      have eb := hBV j hj
      have p1 := lin_R (outI_R hG.1 _ (Nat.le_refl _)) (show 1 ≤ cW (aC A) by omega) j hj
      have p2 : 0 ≤ lin (cW (aC A)) (outI (offC (aC A) k) (cN (aC A))) j ∧ lin (cW (aC A)) (outI (offC (aC A) k) (cN (aC A))) j ≤ 255 := lin_R (outI_R GO _ (Nat.le_refl _)) (show 1 ≤ cW (aC A) by omega) j hj
      have es : sm (lin (cW (aC A)) fun x y => dI (outI (aC A) (cN (aC A)) x y) (outI (offC (aC A) k) (cN (aC A)) x y)) (j + 1) = sm (lin (cW (aC A)) fun x y => dI (outI (aC A) (cN (aC A)) x y) (outI (offC (aC A) k) (cN (aC A)) x y)) j + dI (lin (cW (aC A)) (outI (aC A) (cN (aC A))) j) (lin (cW (aC A)) (outI (offC (aC A) k) (cN (aC A))) j) := rfl
      have ea := s_mabs (a := lin (cW (aC A)) (outI (offC (aC A) k) (cN (aC A))) j - lin (cW (aC A)) (outI (aC A) (cN (aC A))) j) (d + 6) ω (by omega) (by omega)
      refine ⟨iI (sm (lin (cW (aC A)) fun x y => dI (outI (aC A) (cN (aC A)) x y) (outI (offC (aC A) k) (cN (aC A)) x y)) (j + 1)), ?_, rfl⟩
      show LX11_effectOf_55 _ _ _ _ _ _ _ _ = LX11_effectOf_55 _ _ _ _ _ _ _ _
      rw [uX11_effectOf_55, hIj]
      simp only [zlt_e, onR_s, nul_s, nul_n, chk_e, bnI_s, bnR_s, bnV_s, zi_si, zi_sr, zi_sl, zi_sa, zi_sq, zr_si, zr_sr, zr_sl, zr_sa, zr_sq, zl_si, zl_sr, zl_sl, zl_sa, zl_sq, zai_si, zai_sr, zai_sl, zai_sa, zai_sq, zar_si, zar_sr, zar_sl, zar_sa, zar_sq, zkd_si, zkd_sr, zkd_sl, zkd_sa, zkd_sq, zln_si, zln_sr, zln_sl, zln_sa, zln_sq, znx_si, znx_sr, znx_sl, znx_sa, znx_sq, hI3.1.k, hI3.1.o.1, hI3.1.o.2.1, hI3.1.o.2.2, hI3.1.bs.1, hI3.1.bs.2.1, hI3.1.bs.2.2, if_true, s_pixels hI3.1 hI3.2.1, n_lt (show j < 2 ^ 31 by omega) (show cH (aC A) * cW (aC A) < 2 ^ 31 by omega), hj, nI_add, n_zin (show 256 * cN (aC A) + j < 2 ^ 31 by omega), n_tn (show 256 * cN (aC A) + j < 2 ^ 31 by omega), show 256 * cN (aC A) + j < 2304 by omega, n_zin (show j < 2 ^ 31 by omega), n_tn (show j < 2 ^ 31 by omega), show j < 256 by omega, and_self, ev, eb, i_sub, ea, i_add, nI_1]
      rw [es, dI_comm]
      rfl)
    (fun t hIj => by
      rw [uX11_effectOf_55]
      simp only [zlt_e, onR_s, nul_s, nul_n, chk_e, bnI_s, bnR_s, bnV_s, zi_si, zi_sr, zi_sl, zi_sa, zi_sq, zr_si, zr_sr, zr_sl, zr_sa, zr_sq, zl_si, zl_sr, zl_sl, zl_sa, zl_sq, zai_si, zai_sr, zai_sl, zai_sa, zai_sq, zar_si, zar_sr, zar_sl, zar_sa, zar_sq, zkd_si, zkd_sr, zkd_sl, zkd_sa, zkd_sq, zln_si, zln_sr, zln_sl, zln_sa, zln_sq, znx_si, znx_sr, znx_sl, znx_sa, znx_sq, hI3.1.k, if_true, s_pixels hI3.1 hI3.2.1, n_lt (show cH (aC A) * cW (aC A) < 2 ^ 31 by omega) (show cH (aC A) * cW (aC A) < 2 ^ 31 by omega), Nat.lt_irrefl, if_false])
  have a2 : t = _ := a2
  have a1 : LX11_effectOf_55 (zEv (d + 7)) m (.inl (nI k)) (.inl (iI (cL (aC A) k 5))) (nI (256 * cN (aC A))) 0 0 ω = _ := a1
  rw [a2] at a1
  exact a1
theorem m_effect {σ : zS} {m B : Nat} {A : zW} (hG : GA A B) (hI : MIx σ m A) (x : Int32) (d : Nat) : zOM m (zEv (d + 20) mX11_effect [.inr (.inl (some m)), .inl x] σ) (rEff A x) A σ := by
  have hI1 := hI.th
  have hn8 := hG.1.2.2.1
  have g0 : zFr (fun a => m ≤ a ∧ a < m + 22) σ (zsi σ 576 m 0) := zFr.si σ (by omega)
  have key : ∀ r, zOM m (some (some (.inl r), zsi σ 576 m 0)) r A σ := fun r => zOM.same hI r
  rw [vX11_effect]
  unfold fX11_effect rEff
  simp only [zlt_e, chk_e, hI.1.k, if_true]
  generalize zsi σ 576 m 0 = σ1 at *
  simp only [zlt_e, chk_e, bnI_s, hI1.1.k, if_true, s_misLayer hI1.1 hI1.2.1 hn8, zb_0]
  by_cases hx : zin x (cN (aC A))
  · rw [if_neg (fun q => q hx), if_pos hx]
    obtain ⟨ex, hk⟩ := zin_n hx
    generalize x.toNatClampNeg = k at *
    subst ex
    obtain ⟨τ, h1, h2, h3⟩ := s_effectOf hG hI1 hk (d + 11)
    simp only [h1, bnI_s]
    exact ⟨τ, rfl, h2, g0.tr h3⟩
  · rw [if_pos hx, if_neg hx]
    exact key _
theorem m_strongestLayer {σ : zS} {m B : Nat} {A : zW} (hG : GA A B) (hI : MIx σ m A) (d : Nat) : zOM m (zEv (d + 20) mX11_strongestLayer [.inr (.inl (some m))] σ) (rStg A) A σ := by
  have hI1 := hI.th
  have hn8 := hG.1.2.2.1
  have g0 : zFr (fun a => m ≤ a ∧ a < m + 22) σ (zsi σ 576 m 0) := zFr.si σ (by omega)
  have t2 : (258 : Int32).toNatClampNeg = 258 := rfl
  have z258 : zin 258 515 = True := eq_true (by decide)
  rw [vX11_strongestLayer]
  unfold fX11_strongestLayer rStg
  simp only [zlt_e, chk_e, hI.1.k, if_true]
  generalize zsi σ 576 m 0 = σ1 at *
  obtain ⟨⟨υ, a, b, z⟩, l1, l2⟩ := loop_from (fun k (s : zS × Int32 × Int32 × zV) => LX11_strongestLayer_13 (zEv (d + 19)) m s.2.1 s.2.2.1 (nI k) s.2.2.2 s.1) (fun k s => zFr (fun a => m ≤ a ∧ a < m + 22) σ s.1 ∧ MIx s.1 m A ∧ s.2.1 = iI (stgI (aC A) k).1 ∧ s.2.2.1 = iI (stgI (aC A) k).2) 0 (cN (aC A)) (fun s => some (some (.inl s.2.1), s.1)) (σ1, -1009, -1, .inr (.inr 0)) (Nat.zero_le _) ⟨g0, hI1, rfl, rfl⟩
    (fun k s hk hIk => by
      obtain ⟨g, gI, ga, gb⟩ := hIk
      obtain ⟨υ, k1, k2, k3⟩ := s_effectOf hG gI hk (d + 11)
      have vn : zai s.1 (m + 1) 258 = nI (cN (aC A)) := gI.2.1.2.2.2.1
      have r1 := stgI_R hG.1 k (by omega)
      have r2 := effI_R hG.1 hk
      have hle : (iI (effI (aC A) k) ≤ iI (stgI (aC A) k).2) ↔ effI (aC A) k ≤ (stgI (aC A) k).2 := i_le (by omega) (by omega) (by omega) (by omega)
      have e : stgI (aC A) (k + 1) = if effI (aC A) k ≤ (stgI (aC A) k).2 then stgI (aC A) k else ((k : Int), effI (aC A) k) := rfl
      refine ⟨(υ, iI (stgI (aC A) (k + 1)).1, iI (stgI (aC A) (k + 1)).2, .inl (iI (effI (aC A) k))), ?_, g.tr k3, k2, rfl, rfl⟩
      show LX11_strongestLayer_13 _ _ _ _ _ _ _ = LX11_strongestLayer_13 _ _ _ _ _ _ _
      rw [uX11_strongestLayer_13]
      simp only [zlt_e, onR_s, nul_s, nul_n, chk_e, bnI_s, bnR_s, bnV_s, zi_si, zi_sr, zi_sl, zi_sa, zi_sq, zr_si, zr_sr, zr_sl, zr_sa, zr_sq, zl_si, zl_sr, zl_sl, zl_sa, zl_sq, zai_si, zai_sr, zai_sl, zai_sa, zai_sq, zar_si, zar_sr, zar_sl, zar_sa, zar_sq, zkd_si, zkd_sr, zkd_sl, zkd_sa, zkd_sq, zln_si, zln_sr, zln_sl, zln_sa, zln_sq, znx_si, znx_sr, znx_sl, znx_sa, znx_sq, gI.1.k, gI.1.s.1, gI.1.s.2.1, gI.1.s.2.2, z258, t2, and_self, if_true, vn, n_lt (show k < 2 ^ 31 by omega) (show cN (aC A) < 2 ^ 31 by omega), hk, k1, ga, gb, hle]
      by_cases h : effI (aC A) k ≤ (stgI (aC A) k).2
      · rw [if_pos h, uX11_strongestLayer_43, e, if_pos h]
        simp only [zlt_e, hle, nI_1]
        rw [if_pos h]
      · rw [if_neg h, uX11_strongestLayer_43, e, if_neg h]
        simp only [zlt_e, hle, nI_1]
        rw [if_neg h, i_nI k])
    (fun s hIk => by
      obtain ⟨g, gI, ga, gb⟩ := hIk
      have vn : zai s.1 (m + 1) 258 = nI (cN (aC A)) := gI.2.1.2.2.2.1
      rw [uX11_strongestLayer_13]
      simp only [zlt_e, onR_s, nul_s, nul_n, chk_e, bnI_s, bnR_s, bnV_s, zi_si, zi_sr, zi_sl, zi_sa, zi_sq, zr_si, zr_sr, zr_sl, zr_sa, zr_sq, zl_si, zl_sr, zl_sl, zl_sa, zl_sq, zai_si, zai_sr, zai_sl, zai_sa, zai_sq, zar_si, zar_sr, zar_sl, zar_sa, zar_sq, zkd_si, zkd_sr, zkd_sl, zkd_sa, zkd_sq, zln_si, zln_sr, zln_sl, zln_sa, zln_sq, znx_si, znx_sr, znx_sl, znx_sa, znx_sq, gI.1.k, gI.1.s.1, gI.1.s.2.1, gI.1.s.2.2, z258, t2, and_self, if_true, vn, n_lt (show cN (aC A) < 2 ^ 31 by omega) (show cN (aC A) < 2 ^ 31 by omega), Nat.lt_irrefl, if_false])
  have l1 : LX11_strongestLayer_13 (zEv (d + 19)) m (-1009) (-1) 0 (.inr (.inr 0)) σ1 = _ := l1
  rw [l1]
  obtain ⟨g, gI, ga, gb⟩ := l2
  have ga : a = _ := ga
  rw [ga]
  exact ⟨υ, rfl, gI, g⟩
theorem sw_mv (C : zC) (k : Nat) : swC C k (k + 1) = mvC C k (k + 1) := by
  have h := sw_up (cL C) (f := k) (k := k) (Nat.le_refl _)
  have e : lMv (cL C) k k = cL C := congrArg cL (mv_self C k)
  rw [e] at h
  unfold swC mvC
  rw [h]
theorem sw_sw (C : zC) (i j : Nat) (h : i ≠ j) : swC (swC C i j) i j = C := by
  have : swL (swL (cL C) i j) i j = cL C := by
    funext k
    unfold swL
    by_cases e1 : k = i
    · rw [if_pos e1, if_neg (fun q => h q.symm), if_pos rfl, e1]
    · rw [if_neg e1]
      by_cases e2 : k = j
      · rw [if_pos e2, if_pos rfl, e2]
      · rw [if_neg e2, if_neg e1, if_neg e2]
  show (cW C, cH C, cN C, cP C, swL (swL (cL C) i j) i j) = C
  rw [this]
  rfl
theorem m_exchangeDifference {σ : zS} {m B : Nat} {A : zW} (hG : GA A B) (hI : MIx σ m A) (x : Int32) (d : Nat) : zOM m (zEv (d + 20) mX11_exchangeDifference [.inr (.inl (some m)), .inl x] σ) (rExc A x) A σ := by
  have hI1 := hI.th
  have hn8 := hG.1.2.2.1
  have hw := hG.1.1
  have hh := hG.1.2.1
  have g0 : zFr (fun a => m ≤ a ∧ a < m + 22) σ (zsi σ 576 m 0) := zFr.si σ (by omega)
  have key : ∀ r, zOM m (some (some (.inl r), zsi σ 576 m 0)) r A σ := fun r => zOM.same hI r
  rw [vX11_exchangeDifference]
  unfold fX11_exchangeDifference rExc
  simp only [zlt_e, chk_e, hI.1.k, if_true]
  generalize zsi σ 576 m 0 = σ1 at *
  simp only [zlt_e, chk_e, bnI_s, hI1.1.k, if_true, s_misLayer hI1.1 hI1.2.1 hn8, zb_0, s_mtop hI1.1 hI1.2.1]
  by_cases hx : zin x (cN (aC A))
  · rw [if_neg (fun q => q hx)]
    obtain ⟨ex, hk⟩ := zin_n hx
    have ek : x.toNatClampNeg = x.toInt.toNat := rfl
    have hx0 := hx.1
    have hxe : x = iI ((cN (aC A) : Int) - 1) ↔ ¬ (0 ≤ x.toInt ∧ x.toInt + 1 < cN (aC A)) := by
      rw [← Int32.toInt_inj, i_toInt (by omega) (by omega)]
      have := hx.2
      omega
    simp only [hxe]
    by_cases hc : 0 ≤ x.toInt ∧ x.toInt + 1 < cN (aC A)
    · rw [if_neg (fun q => q hc), if_pos hc]
      have hk1 : x.toNatClampNeg + 1 < cN (aC A) := by omega
      generalize x.toNatClampNeg = k at *
      subst ex
      obtain ⟨τ, h1, h2, h3, h4⟩ := s_layBeside hG hI1 (d + 12)
      obtain ⟨υ, k1, k2, k3, k4⟩ := s_exchange h2.1 h2.2.1 hw.2 hh.2 hn8 hk hk1 (by omega) (d + 17)
      rw [sw_mv] at k4
      have hMu := h2.1.fr k2
      obtain ⟨ω, l1, l2, l3⟩ := s_mdiff (C2 := mvC (aC A) k (k + 1)) (px := outI (aC A) (cN (aC A))) hMu k4 (hG.1.mv (by omega) hk1) (h4.fr k2 (by omega)) (outI_R hG.1 _ (Nat.le_refl _)) (d + 12)
      have hMw := hMu.fr l2
      have V2 : MV ω (m + 1) 0 (swC (aC A) k (k + 1)) := by rw [sw_mv]; exact k4.fr l2 (by unfold inM; omega)
      obtain ⟨ψ, o1, o2, o3, o4⟩ := s_exchange (C := swC (aC A) k (k + 1)) hMw V2 hw.2 hh.2 hn8 (show k < cN (aC A) from hk) (show k + 1 < cN (aC A) from hk1) (by omega) (d + 17)
      rw [sw_sw _ _ _ (by omega)] at o4
      have gall : zFr (fun x => x = m ∨ x = m + 1 ∨ x = m + 17 ∨ x = m + 18) τ ψ := (k2.mono (fun a ha => by omega)).tr ((l2.mono (fun a ha => by unfold inM at ha; omega)).tr (o2.mono (fun a ha => by omega)))
      have hI3 : MIx ψ m A := h2.comp gall (fun a _ _ => by omega) (fun f hf => (o3 f m).trans ((l3 f (by omega) (by omega)).trans (k3 f m))) o4
      simp only [h1, bnV_s, bnI_s, h2.1.k, if_true, nI_1, k1, hMu.k, l1, hMw.k, o1]
      exact ⟨ψ, rfl, hI3, g0.tr ((h3.mono (fun a ha => by unfold inMB at ha; omega)).tr (gall.mono (fun a ha => by omega)))⟩
    · rw [if_pos hc, if_neg hc]
      exact key _
  · rw [if_pos hx, if_neg (fun q => hx ⟨q.1, by have := q.2; omega⟩)]
    exact key _
theorem m_snapshotDifference {σ : zS} {m B : Nat} {A : zW} (hG : GA A B) (hI : MIx σ m A) (x : Int32) (d : Nat) : zOM m (zEv (d + 20) mX11_snapshotDifference [.inr (.inl (some m)), .inl x] σ) (rSnap A x) A σ := by
  have hI1 := hI.th
  have hw := hG.1.1
  have hh := hG.1.2.1
  have g0 : zFr (fun a => m ≤ a ∧ a < m + 22) σ (zsi σ 576 m 0) := zFr.si σ (by omega)
  have key : ∀ r, zOM m (some (some (.inl r), zsi σ 576 m 0)) r A σ := fun r => zOM.same hI r
  have w1 : ((0 : Int32) ≤ x ∧ x ≤ 1) ↔ zin x 2 := by
    rw [show ((0 : Int32) ≤ x ∧ x ≤ 1) ↔ 0 ≤ x.toInt ∧ x.toInt ≤ 1 from w_in (a := 0) (b := 1) (by decide) (by decide) (by decide) (by decide)]
    unfold zin
    omega
  have t0 : (0 : Int32).toNatClampNeg = 0 := rfl
  have t1 : (1 : Int32).toNatClampNeg = 1 := rfl
  have z0 : zin 0 515 = True := eq_true (by decide)
  have z1 : zin 1 515 = True := eq_true (by decide)
  rw [vX11_snapshotDifference]
  unfold fX11_snapshotDifference rSnap
  simp only [zlt_e, chk_e, hI.1.k, if_true]
  generalize zsi σ 576 m 0 = σ1 at *
  simp only [zlt_e, chk_e, bnI_s, s_in, zb_0, w1]
  by_cases hx : zin x 2
  · rw [if_neg (fun q => q hx), if_pos hx]
    obtain ⟨ex, hk⟩ := zin_n hx
    generalize x.toNatClampNeg = k at *
    subst ex
    have zs := hI1.2.2.2.2.1 k hk
    have e515 : (515 : Int32) * nI k = nI (515 * k) := pk_mul 515 k
    have e516 : nI (515 * k) + 1 = nI (515 * k + 1) := nI_1 _
    have v0 : zai σ1 (m + 1) 0 = nI (cW (aC A)) := hI1.2.1.1
    have v1 : zai σ1 (m + 1) 1 = nI (cH (aC A)) := hI1.2.1.2.1
    simp only [zlt_e, chk_e, onR_s, hI1.1.k, hI1.1.fi.1, hI1.1.fi.2.1, hI1.1.fi.2.2, eq_true hx, and_self, if_true]
    cases e : aS A k with
    | none =>
      rw [zs.1 e, if_pos rfl]
      exact key _
    | some C =>
      obtain ⟨z2, hMV⟩ := zs.2 C e
      have hC := hG.2.2.1 k hk C e
      have ew : (nI (cW C) = nI (cW (aC A))) ↔ cW C = cW (aC A) := n_eq (by have := hC.1; omega) (by omega)
      have eh : (nI (cH C) = nI (cH (aC A))) ↔ cH C = cH (aC A) := n_eq (by have := hC.2.1; omega) (by omega)
      have c0 : zai σ1 (m + 3) (515 * k) = nI (cW C) := hMV.1
      have c1 : zai σ1 (m + 3) (515 * k + 1) = nI (cH C) := hMV.2.1
      rw [z2, if_neg (by decide)]
      simp only [hI1.1.sl.1, hI1.1.sl.2.1, hI1.1.sl.2.2, hI1.1.s.1, hI1.1.s.2.1, hI1.1.s.2.2, onR_s, e515, e516, n_zin (show 515 * k < 2 ^ 31 by omega), n_tn (show 515 * k < 2 ^ 31 by omega), show 515 * k < 1030 by omega, n_zin (show 515 * k + 1 < 2 ^ 31 by omega), n_tn (show 515 * k + 1 < 2 ^ 31 by omega), show 515 * k + 1 < 1030 by omega, z0, z1, t0, t1, and_self, if_true, c0, c1, v0, v1, ew, eh]
      by_cases hs : cW C = cW (aC A) ∧ cH C = cH (aC A)
      · rw [if_pos hs.1, if_pos hs.2, if_pos hs]
        obtain ⟨τ, h1, h2, h3, h4⟩ := s_layBeside hG hI1 (d + 12)
        have hMV2 := ((h2.2.2.2.2.1 k hk).2 C e).2
        simp only [h1, bnV_s]
        obtain ⟨υ, a1, a2⟩ := loop_from (fun j υ => LX11_snapshotDifference_77 (zEv (d + 19)) m (nI k) (nI j) υ) (fun j υ => zFr (fun x => x = m + 1 ∨ x = m + 21) τ υ ∧ (∀ f x, zi υ f x = zi τ f x) ∧ (∀ i, i < j → zai υ (m + 21) i = zai τ (m + 1) i ∧ zai υ (m + 1) (0 + i) = zai τ (m + 3) (515 * k + i)) ∧ ∀ i, j ≤ i → zai υ (m + 1) i = zai τ (m + 1) i) 0 515 (fun υ => LX11_snapshotDifference_77 (zEv (d + 19)) m (nI k) (nI 515) υ) τ (by decide) ⟨zFr.rf τ, fun _ _ => rfl, fun i hi => absurd hi (Nat.not_lt_zero _), fun _ _ => rfl⟩
          (fun j υ hj hIj => by
            obtain ⟨g, gi, ga, gb⟩ := hIj
            have hM' := h2.1.fr g
            have ev : zai υ (m + 1) j = zai τ (m + 1) j := gb j (Nat.le_refl _)
            have es : zai υ (m + 3) (515 * k + j) = zai τ (m + 3) (515 * k + j) := g.ai (by omega) _
            have hne : (m + 3 = m + 21) = False := eq_false (by omega)
            refine ⟨zsa (zsa υ (m + 21) j (zai τ (m + 1) j)) (m + 1) j (zai τ (m + 3) (515 * k + j)), ?_, g.tr ((zFr.sa _ (Or.inr rfl)).tr (zFr.sa _ (Or.inl rfl))), gi, fun i hi => ⟨?_, ?_⟩, fun i hi => ?_⟩
            · show LX11_snapshotDifference_77 _ _ _ _ _ = LX11_snapshotDifference_77 _ _ _ _ _
              rw [uX11_snapshotDifference_77, if_pos (show nI j < 515 from (n_lt (show j < 2 ^ 31 by omega) (show 515 < 2 ^ 31 by decide)).mpr hj)]
              simp only [zlt_e, onR_s, nul_s, nul_n, chk_e, bnI_s, bnR_s, bnV_s, zi_si, zi_sr, zi_sl, zi_sa, zi_sq, zr_si, zr_sr, zr_sl, zr_sa, zr_sq, zl_si, zl_sr, zl_sl, zl_sa, zl_sq, zai_si, zai_sr, zai_sl, zai_sa, zai_sq, zar_si, zar_sr, zar_sl, zar_sa, zar_sq, zkd_si, zkd_sr, zkd_sl, zkd_sa, zkd_sq, zln_si, zln_sr, zln_sl, zln_sa, zln_sq, znx_si, znx_sr, znx_sl, znx_sa, znx_sq, hM'.k, hM'.s.1, hM'.s.2.1, hM'.s.2.2, hM'.as.1, hM'.as.2.1, hM'.as.2.2, hM'.sl.1, hM'.sl.2.1, hM'.sl.2.2, if_true, e515, nI_add, n_zin (show j < 2 ^ 31 by omega), n_tn (show j < 2 ^ 31 by omega), hj, n_zin (show 515 * k + j < 2 ^ 31 by omega), n_tn (show 515 * k + j < 2 ^ 31 by omega), show 515 * k + j < 1030 by omega, and_self, ev, hne, false_and, if_false, es, nI_1]
            · rw [zai_sa, if_neg (by omega), zai_sa]
              by_cases e : i = j
              · rw [if_pos ⟨rfl, e⟩, e]
              · rw [if_neg (by omega)]; exact (ga i (by omega)).1
            · rw [zai_sa, Nat.zero_add]
              by_cases e : i = j
              · rw [if_pos ⟨rfl, e⟩, e]
              · rw [if_neg (by omega), zai_sa, if_neg (by omega)]
                have := (ga i (by omega)).2
                rwa [Nat.zero_add] at this
            · rw [zai_sa, if_neg (by omega), zai_sa, if_neg (by omega)]; exact gb i (by omega))
          (fun υ hIj => rfl)
        have a1 : LX11_snapshotDifference_77 (zEv (d + 19)) m (nI k) 0 τ = _ := a1
        obtain ⟨g, gi, ga, gb⟩ := a2
        have hMu := h2.1.fr g
        have V2 : MV υ (m + 1) 0 C := hMV2.copy hC.1.2 hC.2.1.2 hC.2.2.1 (fun j hj => (ga j hj).2)
        have hb2 : BV υ m (cW C) (cH C) (outI (aC A) (cN (aC A))) := by rw [hs.1, hs.2]; exact h4.fr g (by omega)
        have hp2 : pxR (cW C) (cH C) (outI (aC A) (cN (aC A))) := by rw [hs.1, hs.2]; exact outI_R hG.1 _ (Nat.le_refl _)
        obtain ⟨ω, l1, l2, l3⟩ := s_mdiff hMu V2 hC hb2 hp2 (d + 12)
        have hMw := hMu.fr l2
        obtain ⟨ψ, o1, o2⟩ := loop_from (fun j ψ => LX11_snapshotDifference_127 (zEv (d + 19)) m (.inl (nI k)) (iI (difI (aC A) C)) (nI j) ψ) (fun j ψ => zFr (fun x => x = m + 1) ω ψ ∧ (∀ f x, zi ψ f x = zi ω f x) ∧ ∀ i, i < j → zai ψ (m + 1) (0 + i) = zai τ (m + 1) (0 + i)) 0 515 (fun ψ => some (some (.inl (iI (difI (aC A) C))), ψ)) ω (by decide) ⟨zFr.rf ω, fun _ _ => rfl, fun i hi => absurd hi (Nat.not_lt_zero _)⟩
          (fun j ψ hj hIj => by
            obtain ⟨g', gi', ga'⟩ := hIj
            have hM' := hMw.fr g'
            have ev : zai ψ (m + 21) j = zai τ (m + 1) j := (g'.ai (by omega) _).trans ((l2.ai (by unfold inM; omega) _).trans (ga j hj).1)
            refine ⟨zsa ψ (m + 1) j (zai τ (m + 1) j), ?_, g'.tr (zFr.sa _ rfl), gi', fun i hi => ?_⟩
            · show LX11_snapshotDifference_127 _ _ _ _ _ _ = LX11_snapshotDifference_127 _ _ _ _ _ _
              rw [uX11_snapshotDifference_127, if_pos (show nI j < 515 from (n_lt (show j < 2 ^ 31 by omega) (show 515 < 2 ^ 31 by decide)).mpr hj)]
              simp only [zlt_e, onR_s, nul_s, nul_n, chk_e, bnI_s, bnR_s, bnV_s, zi_si, zi_sr, zi_sl, zi_sa, zi_sq, zr_si, zr_sr, zr_sl, zr_sa, zr_sq, zl_si, zl_sr, zl_sl, zl_sa, zl_sq, zai_si, zai_sr, zai_sl, zai_sa, zai_sq, zar_si, zar_sr, zar_sl, zar_sa, zar_sq, zkd_si, zkd_sr, zkd_sl, zkd_sa, zkd_sq, zln_si, zln_sr, zln_sl, zln_sa, zln_sq, znx_si, znx_sr, znx_sl, znx_sa, znx_sq, hM'.k, hM'.s.1, hM'.s.2.1, hM'.s.2.2, hM'.as.1, hM'.as.2.1, hM'.as.2.2, if_true, n_zin (show j < 2 ^ 31 by omega), n_tn (show j < 2 ^ 31 by omega), hj, and_self, ev, nI_1]
            · rw [zai_sa, Nat.zero_add]
              by_cases e : i = j
              · rw [if_pos ⟨rfl, e⟩, e]
              · rw [if_neg (by omega)]
                have := ga' i (by omega)
                rwa [Nat.zero_add] at this)
          (fun ψ hIj => by
            rw [uX11_snapshotDifference_127, if_neg (by decide)])
        obtain ⟨g', gi', ga'⟩ := o2
        have gall : zFr (fun x => x = m ∨ x = m + 1 ∨ m + 17 ≤ x ∧ x < m + 22) τ ψ := (g.mono (fun a ha => by omega)).tr ((l2.mono (fun a ha => by unfold inM at ha; omega)).tr (g'.mono (fun a ha => by omega)))
        have hI3 : MIx ψ m A := h2.comp gall (fun a _ _ => by omega) (fun f hf => (gi' f m).trans ((l3 f (by omega) (by omega)).trans (gi f m))) (h2.2.1.copy hw.2 hh.2 hG.1.2.2.1 ga')
        have l1' : zEv (d + 19) mX11_differences [.inr (.inl (some m))] υ = some (some (.inl (iI (difI (aC A) C))), ω) := by
          rw [l1]
          unfold difI
          rw [hs.1, hs.2]
        have o1 : LX11_snapshotDifference_127 (zEv (d + 19)) m (.inl (nI k)) (iI (difI (aC A) C)) 0 ω = _ := o1
        rw [a1, uX11_snapshotDifference_77, if_neg (by decide)]
        simp only [chk_e, zlt_e, bnI_s, hMu.k, if_true, l1', o1]
        exact ⟨ψ, rfl, hI3, g0.tr ((h3.mono (fun a ha => by unfold inMB at ha; omega)).tr (gall.mono (fun a ha => by omega)))⟩
      · rw [if_neg hs]
        by_cases h1 : cW C = cW (aC A)
        · rw [if_pos h1, if_neg (fun q => hs ⟨h1, q⟩)]
          exact key _
        · rw [if_neg h1]
          exact key _
  · rw [if_pos hx, if_neg hx]
    exact key _
